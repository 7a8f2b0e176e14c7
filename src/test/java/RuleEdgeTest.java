/** The edges that "Terms" 4 and promises 18 to 21 name: each method bears the sentence that it holds to. */
public final class RuleEdgeTest {
    private static final Check check = new Check("RuleEdgeTest");

    public static void main(String[] args) {
        rulesThatCanBe();
        restsAlready();
        tillsThatCanBe();
        signAtT();
        secondsOfBoards();
        whatsOfBoards();
        boardChangesInTheSecond();
        hiddenOnesHide();
        notOneWhichIsNotLit();
        hiddenAndStuck();
        lostOrEmpty();
        alikeCouples();
        fewestToRest();
        besidesThoseThatRest();
        allToRest();
        whatsOfHarm();
        nothingThere();
        check.finish();
    }

    private static void harm(String what, LitWindows x, int lost, int alike, int toRest) {
        check.due(what + ": lost", x.harm(0), lost);
        check.due(what + ": alike", x.harm(1), alike);
        check.due(what + ": to rest", x.harm(2), toRest);
    }

    /** "false if there is none such" */
    private static void rulesThatCanBe() {
        for (int many = 0; many <= 8; many++) {
            LitWindows x = Check.of("point a any;window a 0;window a 0;" + "hide 0 while 1;".repeat(many));
            for (int r : new int[] {-1, -2, many, many + 1, 8, 31, 32, 33, Integer.MIN_VALUE, Integer.MAX_VALUE}) {
                check.due("rest(" + r + ", true) of " + many, x.rest(r, true), false);
                check.due("rest(" + r + ", false) of " + many, x.rest(r, false), false);
            }
            check.due("none rests", x.count(5), 0);
            check.due("shown", x.board(1, 0, 1), many > 0 ? 2 : 3);
            for (int r = 0; r < many; r++) {
                check.due("rest(" + r + ", true) of " + many, x.rest(r, true), true);
                check.due("how many rest", x.count(5), r + 1);
                check.due("shown when all rest", x.board(1, 0, 1), r + 1 == many ? 3 : 2);
            }
            for (int r : new int[] {-1, many, 8, 31, 32, Integer.MIN_VALUE, Integer.MAX_VALUE}) {
                check.due("rest(" + r + ", false) of " + many, x.rest(r, false), false);
            }
            check.due("all rest", x.count(5), many);
        }
    }

    /** "or it is so already" */
    private static void restsAlready() {
        LitWindows x = Check.of("point a any;window a 0;window a 0;" + "hide 0 while 1;".repeat(8));
        for (int r = 0; r < 8; r += 7) {
            check.due("it doesn't rest", x.rest(r, false), false);
            check.due("rest", x.rest(r, true), true);
            check.due("it rests", x.rest(r, true), false);
            check.due("one rests", x.count(5), 1);
            check.due("no more", x.rest(r, false), true);
            check.due("it doesn't rest", x.rest(r, false), false);
            check.due("none rests", x.count(5), 0);
        }
    }

    /** "T (1 .. 600; 300 at first)"; "false if it can't be" */
    private static void tillsThatCanBe() {
        for (int t : new int[] {0, -1, -600, 601, 602, 65537, Integer.MIN_VALUE, Integer.MAX_VALUE}) {
            LitWindows x = Check.of("point a any;");
            check.due("T is 300 at first", x.wall(1, 0), 300);
            check.due("till(" + t + ")", x.till(t), false);
            check.due("T is 300 still", x.wall(1, 0), 300);
            check.due("till(1)", x.till(1), true);
            check.due("T is 1", x.wall(1, 0), 1);
            check.due("till(" + t + ")", x.till(t), false);
            check.due("T is 1 still", x.wall(1, 0), 1);
            check.due("till(600)", x.till(600), true);
            check.due("T is 600", x.wall(1, 0), 600);
            check.due("till(600) again", x.till(600), true);
            check.due("till(" + t + ")", x.till(t), false);
            check.due("T is 600 still", x.wall(1, 0), 600);
        }
        LitWindows y = new LitWindows();
        check.due("without a plant", y.till(17), true);
        check.due("without a plant", y.till(601), false);
        Check.write(y, "point a any;");
        y.plant();
        check.due("T stays as a plant comes", y.wall(1, 0), 17);
    }

    /** "The SIGN of a POINT are the WINDOWS that are LIT at T": a window that is lit at T itself is of it, one a second later isn't */
    private static void signAtT() {
        // Window 0 shows at once; window 1 gets lit at a known second, and then each hides the other.
        String plain = "point a any;window a 0;window a 60;hide 0 while 1;hide 1 while 0;";
        LitWindows x = Check.of(plain);
        x.till(59);
        harm("a second ahead", x, 0, 0, 0);
        x.till(60);
        harm("at T", x, 1, 0, 1);
        x.till(61);
        harm("a second behind", x, 1, 0, 1);
        for (int t : new int[] {300, 600}) {
            StringBuilder s = new StringBuilder("point a any;");
            for (int i = 1; i <= t / 60; i++) {
                s.append("point ").append((char) ('a' + i)).append(" any;");
                s.append("from ").append((char) ('a' + i - 1)).append(" to ").append((char) ('a' + i)).append(" in 60;");
            }
            char last = (char) ('a' + t / 60);
            String behind = "window a 0;window " + last + " 0;window " + last + " 1;hide 0 while 1;hide 1 while 0;hide 2 while 0;";
            LitWindows y = Check.of(s + behind);
            if (t != 300) {
                y.till(t);
            }
            check.due("window 1 is lit at T " + t, y.lit(1, 1), t);
            harm("T " + t, y, 1, 0, 1);
            y.till(t - 1);
            harm("T " + (t - 1), y, 0, 0, 0);
        }
        LitWindows one = Check.of("point a any;window a 0;window a 1;hide 0 while 1;hide 1 while 0;");
        one.till(1);
        harm("T 1, lit at 1", one, 1, 0, 1);
        LitWindows two = Check.of("point a any;window a 0;window a 2;hide 0 while 1;hide 1 while 0;");
        two.till(1);
        harm("T 1, lit at 2", two, 0, 0, 0);
    }

    /** "at a second (0 .. 999) .. NONE if they can't be" */
    private static void secondsOfBoards() {
        LitWindows x = Check.of("point a any;window a 0;window a 60;");
        for (int what = 0; what < 2; what++) {
            for (int second : new int[] {-1, -2, 1000, 1001, 65536, Integer.MIN_VALUE, Integer.MAX_VALUE}) {
                check.due("board(1, " + second + ", " + what + ")", x.board(1, second, what), -1);
                check.due("board(0, " + second + ", " + what + ")", x.board(0, second, what), -1);
            }
            check.due("at 0", x.board(1, 0, what), 1);
            check.due("at 59", x.board(1, 59, what), 1);
            check.due("at 60", x.board(1, 60, what), 3);
            check.due("at 999", x.board(1, 999, what), 3);
            check.due("none", x.board(0, 0, what), 0);
            check.due("none", x.board(0, 999, what), 0);
        }
    }

    /** "LIT (what 0) or SHOWN (1) .., if a heap fails of its own; NONE if they can't be." */
    private static void whatsOfBoards() {
        LitWindows x = Check.of("point a any;window a 0;window a 0;hide 0 while 1;");
        check.due("lit", x.board(1, 0, 0), 3);
        check.due("shown", x.board(1, 0, 1), 2);
        for (int what : new int[] {-1, -2, 2, 3, Integer.MIN_VALUE, Integer.MAX_VALUE}) {
            check.due("board(1, 0, " + what + ")", x.board(1, 0, what), -1);
        }
        for (int heap : new int[] {-1, 2, 3, Integer.MIN_VALUE, Integer.MAX_VALUE}) {
            check.due("board(" + heap + ", 0, 0)", x.board(heap, 0, 0), -1);
            check.due("board(" + heap + ", 0, 1)", x.board(heap, 0, 1), -1);
        }
        LitWindows twelve = Check.of("point a any;" + "window a 60;".repeat(12) + "hide 11 while 0;hide 0 while 11;");
        check.due("twelve, a second ahead", twelve.board(1, 59, 0), 0);
        check.due("twelve lit", twelve.board(1, 60, 0), 4095);
        check.due("ten shown", twelve.board(1, 60, 1), 2046);
    }

    /** "HIDDEN is at a second a WINDOW that is LIT, if a RULE .. tells to hide it while one that is LIT then" */
    private static void boardChangesInTheSecond() {
        LitWindows x = Check.of("point a any;window a 10;window a 20;window a 30;hide 0 while 1 not 2;");
        int[][] due = {{9, 0, 0}, {10, 1, 1}, {19, 1, 1}, {20, 3, 2}, {29, 3, 2}, {30, 7, 7}, {999, 7, 7}};
        for (int[] row : due) {
            check.due("lit at " + row[0], x.board(1, row[0], 0), row[1]);
            check.due("shown at " + row[0], x.board(1, row[0], 1), row[2]);
        }
        LitWindows y = Check.of("point a any;window a 20;window a 10;hide 0 while 1;");
        check.due("a rule of one that isn't lit yet", y.board(1, 19, 1), 2);
        check.due("hidden in the second it is lit", y.board(1, 20, 1), 2);
    }

    /** One that is hidden is lit no less, so it hides as before. */
    private static void hiddenOnesHide() {
        LitWindows x = Check.of("point a any;window a 0;window a 0;window a 0;hide 0 while 1;hide 1 while 2;hide 2 while 0;");
        check.due("all hide one another", x.board(1, 0, 1), 0);
        x.rest(1, true);
        check.due("but for 1", x.board(1, 0, 1), 2);
        LitWindows y = Check.of("point a any;window a 0;window a 0;window a 0;window a 0;hide 0 while 1 not 2;hide 2 while 3;");
        check.due("one that is hidden keeps another from being hidden", y.board(1, 0, 1), 11);
    }

    /** "(and not one, which isn't LIT then)" */
    private static void notOneWhichIsNotLit() {
        LitWindows x = Check.of("point a any;point b any;window a 0;window a 0;window b 0;hide 0 while 1 not 2;");
        check.due("2 isn't lit", x.board(1, 0, 1), 2);
        check.due("2 is lit", x.board(3, 0, 1), 7);
        check.due("1 isn't lit", x.board(2, 0, 1), 4);
        LitWindows y = Check.of("point a any;point b any;window b 0;window a 0;window a 0;hide 1 while 2 not 0;hide 2 while 1 not 0;");
        check.due("not the window 0", y.board(1, 0, 1), 0);
        check.due("not the window 0, which is lit", y.board(3, 0, 1), 7);
    }

    /** "while one that is LIT then": one that sticks lit always is, one that sticks dark never */
    private static void hiddenAndStuck() {
        LitWindows x = Check.of("point a any;window a 0;window a 0;window a 0;hide 0 while 1 not 2;");
        x.stick(2, 2);
        check.due("2 is dark, so 0 is hidden", x.board(1, 0, 1), 2);
        x.stick(1, 2);
        check.due("1 is dark, so 0 is shown", x.board(1, 0, 1), 1);
        x.stick(1, 1);
        check.due("1 sticks lit", x.board(1, 0, 1), 2);
        check.due("1 sticks lit, nothing fails", x.board(0, 0, 1), 2);
        x.stick(2, 1);
        check.due("2 sticks lit", x.board(0, 0, 1), 6);
        x.stick(0, 1);
        check.due("all stick lit", x.board(0, 999, 1), 7);
    }

    /** "LOST is a POINT whose SIGN isn't empty, but its SHOWN SIGN is." */
    private static void lostOrEmpty() {
        LitWindows x = Check.of("point a any;point b any;window a 0;window a 0;hide 0 while 1;hide 1 while 0;");
        harm("a is lost, b has no sign", x, 1, 1, 1);
        LitWindows none = Check.of("point a any;point b any;window a 0;");
        harm("an empty sign isn't lost", none, 0, 0, 0);
        none.stick(0, 2);
        harm("two empty signs are like", none, 0, 0, 0);
        StringBuilder s = new StringBuilder();
        for (int i = 0; i < 12; i++) {
            s.append("point ").append((char) ('a' + i)).append(" any;");
        }
        LitWindows all = Check.of(s + "window a 0;window a 0;hide 0 while 1;hide 1 while 0;");
        harm("one of twelve", all, 1, 11, 1);
        all.stick(0, 1);
        all.stick(1, 1);
        harm("all twelve, with like signs", all, 12, 0, 1);
    }

    /** "ALIKE are two POINTS with unlike SIGNS and like SHOWN SIGNS." */
    private static void alikeCouples() {
        StringBuilder s = new StringBuilder();
        for (int i = 0; i < 12; i++) {
            s.append("point ").append((char) ('a' + i)).append(" any;");
        }
        for (int i = 0; i < 8; i++) {
            s.append("window ").append((char) ('a' + i)).append(" 0;");
        }
        s.append("window a 0;");
        for (int i = 0; i < 8; i++) {
            s.append("hide ").append(i).append(" while 8;");
        }
        LitWindows x = Check.of(s.toString());
        harm("a has windows 0 and 8", x, 0, 0, 0);
        x.stick(8, 1);
        harm("28 couples of the first eight, 32 of one of them and one of the last four", x, 0, 60, 255);
        x.rest(0, true);
        harm("without a: 21 and 28", x, 0, 49, 254);
        LitWindows y = Check.of("point a any;point b any;window a 0;window b 0;");
        harm("unlike and shown unlike", y, 0, 0, 0);
        y.stick(0, 2);
        y.stick(1, 2);
        harm("like and shown like", y, 0, 0, 0);
    }

    /** "the fewest RULES .. of like ones the least as bits" */
    private static void fewestToRest() {
        LitWindows few = Check.of("point a any;window a 0;window a 0;window a 0;hide 0 while 1;hide 0 while 2;hide 1 while 0;hide 2 while 0;hide 2 while 1;");
        harm("one of them, not rules 0 and 1, though these are less as bits", few, 1, 0, 4);
        LitWindows two = Check.of("point a any;window a 0;window a 0;hide 0 while 1;hide 0 while 1;hide 1 while 0;hide 1 while 0;");
        harm("two either way: the least", two, 1, 0, 3);
        LitWindows last = Check.of("point a any;window a 0;window a 0;" + "hide 0 while 1;".repeat(7) + "hide 1 while 0;");
        harm("the eighth alone", last, 1, 0, 128);
        LitWindows none = Check.of("point a any;window a 0;window a 0;" + "hide 0 while 1;".repeat(8));
        harm("nothing is lost or alike", none, 0, 0, 0);
        LitWindows alike = Check.of("point a any;point b any;from a to b in 0;window a 0;window b 0;hide 0 while 1;");
        harm("for two alike", alike, 0, 1, 1);
    }

    /** "(besides those that REST)" */
    private static void besidesThoseThatRest() {
        LitWindows x = Check.of("point a any;window a 0;window a 0;hide 0 while 1;hide 0 while 1;hide 1 while 0;hide 1 while 0;");
        x.rest(2, true);
        harm("rule 3 besides rule 2", x, 1, 0, 8);
        x.rest(0, true);
        harm("rule 1 besides 0, or 3 besides 2", x, 1, 0, 2);
        x.rest(1, true);
        harm("0 and 1 do", x, 0, 0, 0);
        x.rest(3, true);
        harm("all rest", x, 0, 0, 0);
        check.due("asking lets none rest", x.count(5), 4);
        x.rest(0, false);
        x.rest(1, false);
        harm("2 and 3 do", x, 0, 0, 0);
    }

    /** "without which no POINT is LOST and none ALIKE": all eight, and less those that rest */
    private static void allToRest() {
        StringBuilder s = new StringBuilder();
        for (int i = 0; i < 9; i++) {
            s.append("point ").append((char) ('a' + i)).append(" any;window ").append((char) ('a' + i)).append(" 0;");
        }
        for (int i = 0; i < 8; i++) {
            s.append("hide ").append(i).append(" while 8;");
        }
        LitWindows x = Check.of(s.toString());
        x.stick(8, 1);
        harm("all eight", x, 0, 36, 255);
        check.due("asking lets none rest", x.count(5), 0);
        for (int r = 0; r < 8; r++) {
            x.rest(r, true);
            check.due("what is left of all eight", x.harm(2), 255 & ~((2 << r) - 1));
        }
        harm("all rest", x, 0, 0, 0);
    }

    /** "NONE for others, or without a PLANT." */
    private static void whatsOfHarm() {
        LitWindows x = Check.of("point a any;window a 0;window a 0;hide 0 while 1;hide 1 while 0;");
        for (int what : new int[] {-1, -2, 3, 4, Integer.MIN_VALUE, Integer.MAX_VALUE}) {
            check.due("harm(" + what + ")", x.harm(what), -1);
        }
        harm("0 to 2", x, 1, 0, 1);
    }

    /** "NONE for others, or without a PLANT."; a plant without windows, or without rules */
    private static void nothingThere() {
        LitWindows none = new LitWindows();
        for (int what = -1; what <= 3; what++) {
            check.due("without a plant: harm(" + what + ")", none.harm(what), -1);
            check.due("without a plant: board(0, 0, " + what + ")", none.board(0, 0, what), -1);
            check.due("without a plant: rest(" + what + ")", none.rest(what, true), false);
            check.due("without a plant: rest(" + what + ")", none.rest(what, false), false);
        }
        check.due("without a plant: none rests", none.count(5), 0);
        harm("without windows", Check.of("point a any;point b all;"), 0, 0, 0);
        harm("without rules", Check.of("point a any;point b all;window a 0;window b 0;window a 60;"), 0, 0, 0);
    }
}
