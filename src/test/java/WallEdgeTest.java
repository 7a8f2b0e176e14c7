/** The edges that "Terms" 5 and promises 22 to 24 name: each method bears the sentence that it holds to. */
public final class WallEdgeTest {
    private static final Check check = new Check("WallEdgeTest");
    private static final int[] NO_PACES = {0, -1, -30, 31, 32, 300, Integer.MIN_VALUE, Integer.MAX_VALUE};

    public static void main(String[] args) {
        placesThatCanBe();
        changesOfPlaces();
        pointsThatCanBe();
        pacesThatCanBe();
        notBehindT();
        soonestAndLatest();
        readsAtOnce();
        leastPlaceInThatSecond();
        shownInThatSecondAlone();
        readOnce();
        waitsForTheLastWindow();
        mayBe();
        stuckOnesTellNothing();
        onePoint();
        withoutWindows();
        sums();
        greatestSum();
        toChangeTheLastTwo();
        toChangeOfLikeOnes();
        noneToChange();
        whatsOfWalls();
        withoutPlant();
        check.finish();
    }

    private static void places(String what, LitWindows x, int... windows) {
        for (int place = 0; place < windows.length; place++) {
            check.due(what + ": the place of " + windows[place], x.window(windows[place], 3), place);
        }
    }

    private static void wall(String what, LitWindows x, int pace, int... due) {
        for (int i = 0; i < 4; i++) {
            check.due(what + ": wall(" + pace + ", " + i + ")", x.wall(pace, i), due[i]);
        }
    }

    /** "Two PLACES of WINDOWS change their WINDOWS: true; false if there are none such, or they are the same." */
    private static void placesThatCanBe() {
        for (int many = 0; many <= 12; many++) {
            LitWindows x = Check.of("point a any;" + "window a 0;".repeat(many));
            for (int no : new int[] {-1, many, many + 1, 12, Integer.MIN_VALUE, Integer.MAX_VALUE}) {
                check.due("change(0, " + no + ") of " + many, x.change(0, no), false);
                check.due("change(" + no + ", 0) of " + many, x.change(no, 0), false);
                check.due("change(" + no + ", " + no + ") of " + many, x.change(no, no), false);
                check.due("change(" + (many - 1) + ", " + no + ") of " + many, x.change(many - 1, no), false);
            }
            for (int place = 0; place < many; place++) {
                check.due("the same", x.change(place, place), false);
                check.due("each is where it was", x.window(place, 3), place);
            }
            if (many > 1) {
                check.due("the first and the last of " + many, x.change(0, many - 1), true);
                check.due("the first", x.window(0, 3), many - 1);
                check.due("the last", x.window(many - 1, 3), 0);
                check.due("back", x.change(many - 1, 0), true);
                check.due("the first", x.window(0, 3), 0);
                check.due("the last", x.window(many - 1, 3), many - 1);
            }
        }
    }

    /** Places, not windows, are told: a second change moves what stands there then. */
    private static void changesOfPlaces() {
        LitWindows x = Check.of("point a any;window a 0;window a 0;window a 0;");
        check.due("change(0, 1)", x.change(0, 1), true);
        places("0 and 1", x, 1, 0, 2);
        check.due("change(2, 1)", x.change(2, 1), true);
        places("1 and 2", x, 1, 2, 0);
        check.due("change(0, 2)", x.change(0, 2), true);
        places("0 and 2", x, 0, 2, 1);
        check.due("change(1, 1)", x.change(1, 1), false);
        places("the same", x, 0, 2, 1);
    }

    /** "NONE if it isn't, or they can't be": points */
    private static void pointsThatCanBe() {
        for (int many = 1; many <= 12; many++) {
            StringBuilder s = new StringBuilder();
            for (int i = 0; i < many; i++) {
                s.append("point ").append((char) ('a' + i)).append(" any;window ").append((char) ('a' + i)).append(' ').append(i).append(';');
            }
            LitWindows x = Check.of(s.toString());
            for (int p = 0; p < many; p++) {
                check.due("told(" + p + ", 1) of " + many, x.told(p, 1), p + 1);
                check.due("told(" + p + ", 30) of " + many, x.told(p, 30), p + 30);
            }
            for (int p : new int[] {-1, -2, many, many + 1, Integer.MIN_VALUE, Integer.MAX_VALUE}) {
                check.due("told(" + p + ", 1) of " + many, x.told(p, 1), -1);
            }
            check.due("the sum", x.wall(30, 0), 30 * many + many * (many - 1) / 2);
        }
    }

    /** "PACE seconds (1 .. 30)" */
    private static void pacesThatCanBe() {
        LitWindows x = Check.of("point a any;point b any;window a 0;window b 0;");
        for (int pace = 1; pace <= 30; pace++) {
            check.due("told(0, " + pace + ")", x.told(0, pace), pace);
            check.due("wall(" + pace + ", 0)", x.wall(pace, 0), 2 * pace);
        }
        for (int pace : NO_PACES) {
            check.due("told(0, " + pace + ")", x.told(0, pace), -1);
            for (int what = 0; what < 4; what++) {
                check.due("wall(" + pace + ", " + what + ")", x.wall(pace, what), -1);
                check.due("wall(" + pace + ", " + what + ") where there are two to change", changeable().wall(pace, what), -1);
            }
        }
    }

    /** "the first such, if it is not behind T" */
    private static void notBehindT() {
        LitWindows x = Check.of("point a any;point b any;from a to b in 0;window b 0;window a 0;");
        for (int pace = 1; pace <= 30; pace += 29) {
            x.till(2 * pace);
            check.due("at T, pace " + pace, x.told(0, pace), 2 * pace);
            x.till(2 * pace - 1);
            check.due("a second behind T, pace " + pace, x.told(0, pace), -1);
            check.due("b isn't told", x.told(1, pace), -1);
            check.due("T for both", x.wall(pace, 0), 2 * (2 * pace - 1));
        }
        LitWindows y = Check.of("point a any;point b any;window a 60;window b 60;");
        y.till(90);
        check.due("lit at 60, read by 30", y.told(0, 30), 90);
        y.till(89);
        check.due("a second too late", y.told(0, 30), -1);
        check.due("a little sooner", y.told(0, 29), 89);
        y.till(60);
        check.due("of the sign at 60, but not read", y.told(0, 1), -1);
        y.till(61);
        check.due("read", y.told(0, 1), 61);
    }

    /** From second 1 (T 1) to second 600 (T 600) */
    private static void soonestAndLatest() {
        LitWindows x = Check.of("point a any;point b any;window a 0;window b 1;");
        x.till(1);
        check.due("a by 1", x.told(0, 1), 1);
        check.due("b is lit at 1, and read till 2", x.told(1, 1), -1);
        check.due("a by 2", x.told(0, 2), -1);
        check.due("sum", x.wall(1, 0), 2);
        LitWindows y = Check.of(chainToTell());
        y.till(600);
        check.due("lit at", y.lit(1, 1), 599);
        check.due("lit at 599, told at 600", y.told(0, 1), 600);
        check.due("by 2 it ends at 601", y.told(0, 2), -1);
        check.due("z may be a", y.told(11, 1), -1);
        y.till(599);
        check.due("T 599", y.told(0, 1), -1);
    }

    /** Window 0 tells a or z; window 1, lit by a at 599, tells a alone, as z has it not before 659. */
    private static String chainToTell() {
        StringBuilder s = new StringBuilder("point a any;");
        for (int i = 1; i <= 10; i++) {
            s.append("point ").append((char) ('a' + i)).append(" any;");
            s.append("from ").append((char) ('a' + i - 1)).append(" to ").append((char) ('a' + i)).append(" in ").append(i == 10 ? 59 : 60).append(';');
        }
        return s + "point z any;from z to a in 60;window a 0;window k 0;";
    }

    /** "from second 0 on, at once the WINDOW .. ; without one it waits a second"; "Reading takes PACE seconds .., then the next one." */
    private static void readsAtOnce() {
        LitWindows x = Check.of("point a any;point b any;from a to b in 0;window b 0;window a 7;");
        int[][] due = {{1, 8}, {6, 13}, {7, 14}, {8, 16}, {30, 60}};
        for (int[] row : due) {
            check.due("pace " + row[0], x.told(0, row[0]), row[1]);
        }
        LitWindows y = Check.of("point a any;point b any;window a 5;window b 60;");
        check.due("waits till 5", y.told(0, 3), 8);
        check.due("waits till 60", y.told(1, 3), 63);
    }

    /** "the WINDOW with the least PLACE that is SHOWN in that second" */
    private static void leastPlaceInThatSecond() {
        // Window 0 gets lit in the second in which the reading of window 2 ends, so it comes ahead of window 1.
        String plant = "point a any;point b any;from a to b in 0;window a 5;window b 0;window b 0;";
        LitWindows x = Check.of(plant);
        x.change(1, 2);
        check.due("lit in the second the reading ends", x.told(0, 5), 10);
        check.due("lit a second behind it", x.told(0, 4), 12);
        check.due("lit within it", x.told(0, 6), 12);
        x.change(0, 2);
        check.due("last on the wall", x.told(0, 5), 15);
    }

    /** "that is SHOWN in that second": what is hidden before it is read is not read */
    private static void shownInThatSecondAlone() {
        LitWindows x = Check.of("point a any;point b any;from a to b in 0;window b 0;window a 1;window b 4;hide 1 while 2;");
        check.due("read from 3 on, before it is hidden", x.told(0, 3), 6);
        check.due("hidden in the second in which it would be read", x.told(0, 4), -1);
        check.due("read from 1 on", x.told(0, 1), 2);
        LitWindows y = Check.of("point a any;point b any;from a to b in 0;window b 0;window a 1;window b 4;hide 1 while 0 not 2;");
        check.due("hidden till 4", y.told(0, 1), 5);
        check.due("the reading of 0 ends at 4", y.told(0, 4), 8);
        check.due("and at 5", y.told(0, 5), 10);
    }

    /** "and wasn't read" */
    private static void readOnce() {
        LitWindows x = Check.of("point a any;point b any;from a to b in 0;window b 0;window a 60;");
        check.due("window 0 is read once, then the crew waits", x.told(0, 1), 61);
        LitWindows hidden = Check.of("point a any;point b any;from a to b in 0;window b 0;window b 2;window b 4;window a 10;hide 0 while 1 not 2;");
        check.due("hidden and shown again, but read", hidden.told(0, 1), 11);
        check.due("slowly: 0, 1, 2, then 3 at 10", hidden.told(0, 3), 13);
    }

    /** As many stages as can be: each window gets lit in a second of its own, none at 0. */
    private static void waitsForTheLastWindow() {
        StringBuilder s = new StringBuilder("point a any;point b any;from a to b in 0;");
        for (int i = 0; i < 11; i++) {
            s.append("window b ").append(5 * (11 - i)).append(';');
        }
        LitWindows x = Check.of(s + "window a 60;");
        check.due("the twelfth tells", x.told(0, 1), 61);
        check.due("the twelfth tells", x.told(0, 5), 65);
        check.due("slower: twelve readings with no wait between", x.told(0, 6), 5 + 12 * 6);
        check.due("by 30 it is behind T 300", x.told(0, 30), -1);
        x.till(365);
        check.due("by 30, T 365", x.told(0, 30), 365);
        x.till(364);
        check.due("by 30, T 364", x.told(0, 30), -1);
        check.due("b reads eleven, and isn't told", x.told(1, 1), -1);
    }

    /** "A POINT MAY BE it, if its SIGN has all WINDOWS that were read": at T, also what gets lit later than it is read */
    private static void mayBe() {
        LitWindows x = Check.of("point a any;point b any;from b to a in 50;window a 0;window b 60;");
        x.till(49);
        check.due("b's sign has window 0 not yet at 49", x.told(0, 1), 1);
        x.till(50);
        check.due("at 50 it has", x.told(0, 1), -1);
        LitWindows two = Check.of("point a any;point b any;point c any;from a to b in 0;from a to c in 0;window b 0;window c 0;");
        check.due("both together tell a", two.told(0, 4), 8);
        check.due("b's may be a's", two.told(1, 4), -1);
        check.due("c's may be a's", two.told(2, 4), -1);
    }

    /** "(but for those that STICK lit)" */
    private static void stuckOnesTellNothing() {
        LitWindows x = Check.of("point a any;point b any;window a 0;window a 10;window b 10;");
        check.due("window 0 tells", x.told(0, 2), 2);
        x.stick(0, 1);
        check.due("window 0 sticks lit, 1 tells", x.told(0, 2), 12);
        check.due("window 0 is read with b too", x.told(1, 2), 12);
        x.stick(1, 2);
        check.due("window 1 is dark", x.told(0, 2), -1);
        check.due("b's isn't", x.told(1, 2), 12);
        check.due("window 0 takes its time", x.told(1, 30), 60);
    }

    /** "by which just one POINT MAY BE it": of one point it is so at the first reading's end */
    private static void onePoint() {
        LitWindows x = Check.of("point a any;window a 0;window a 1;");
        check.due("the first reading", x.told(0, 30), 30);
        check.due("sum", x.wall(30, 0), 30);
        x.stick(0, 1);
        check.due("of one that sticks", x.told(0, 30), 30);
        x.stick(0, 2);
        check.due("of the other", x.told(0, 30), 31);
        x.stick(1, 2);
        check.due("no reading at all", x.told(0, 30), -1);
        check.due("sum", x.wall(30, 0), 300);
    }

    /** "T for those without"; "or there are none": no window, or no two */
    private static void withoutWindows() {
        LitWindows x = Check.of("point a any;point b any;");
        check.due("told", x.told(0, 1), -1);
        wall("without windows", x, 1, 600, -1, -1, -1);
        check.due("change", x.change(0, 1), false);
        LitWindows y = Check.of("point a any;point b any;window a 0;");
        wall("one window", y, 1, 301, -1, -1, -1);
        check.due("change", y.change(0, 0), false);
        check.due("change", y.change(0, 1), false);
    }

    /** "The SUM is of TOLD over all POINTS, T for those without." */
    private static void sums() {
        LitWindows x = Check.of("point a any;point b any;point c any;window a 0;window b 30;");
        check.due("c has none", x.wall(30, 0), 30 + 60 + 300);
        x.till(60);
        check.due("T 60", x.wall(30, 0), 30 + 60 + 60);
        x.till(59);
        check.due("T 59: b is told behind it", x.wall(30, 0), 30 + 59 + 59);
        x.till(1);
        check.due("T 1", x.wall(30, 0), 3);
        check.due("T 1, pace 1", x.wall(1, 0), 3);
        x.till(600);
        check.due("T 600", x.wall(1, 0), 1 + 31 + 600);
    }

    /** "The SUM is of TOLD over all POINTS": twelve of them with T 600 */
    private static void greatestSum() {
        StringBuilder s = new StringBuilder();
        for (int i = 0; i < 12; i++) {
            s.append("point ").append((char) ('a' + i)).append(" any;");
        }
        LitWindows x = Check.of(s.toString());
        x.till(600);
        check.due("twelve without windows", x.wall(30, 0), 7200);
        LitWindows y = Check.of(s + "window a 0;".repeat(12));
        y.till(600);
        for (int w = 0; w < 12; w++) {
            y.stick(w, 1);
        }
        wall("twelve windows that stick lit", y, 30, 7200, -1, -1, -1);
        wall("twelve windows that stick lit", y, 1, 7200, -1, -1, -1);
    }

    private static LitWindows changeable() {
        return Check.of("point a any;point b any;from a to b in 0;window b 0;window a 0;");
    }

    /** "TO CHANGE are the two PLACES (of WINDOWS; the lesser first)": the last two of twelve, where each other change makes as much worse as better */
    private static void toChangeTheLastTwo() {
        StringBuilder s = new StringBuilder("point a any;point q any;");
        for (int i = 0; i < 10; i++) {
            s.append("point ").append((char) ('b' + i)).append(" any;");
        }
        s.append("from a to q in 0;");
        for (int i = 0; i < 10; i++) {
            s.append("from ").append((char) ('b' + i)).append(" to q in 0;");
        }
        for (int i = 0; i < 10; i++) {
            s.append("window ").append((char) ('b' + i)).append(" 0;");
        }
        LitWindows x = Check.of(s + "window q 0;window a 0;");
        wall("the last two", x, 7, 7 * 12 + 300, 10, 11, 7 * 11 + 300);
        for (int w = 0; w < 12; w++) {
            check.due("asking changes no place", x.window(w, 3), w);
        }
        check.due("change them", x.change(11, 10), true);
        wall("none left", x, 7, 7 * 11 + 300, -1, -1, -1);
    }

    /** "make the SUM least, of like ones the first by the lesser, then the greater" */
    private static void toChangeOfLikeOnes() {
        LitWindows two = changeable();
        wall("the first two", two, 5, 310, 0, 1, 305);
        LitWindows like = Check.of("point a any;point b any;from a to b in 0;window b 0;window b 0;window a 0;window a 0;");
        wall("0 with 2 or 3: then the greater", like, 5, 315, 0, 2, 305);
        LitWindows later = Check.of("point a any;point b any;from a to b in 0;window b 0;window b 0;window b 0;window a 0;");
        wall("0 with 3 is better than 1 or 2 with it", later, 5, 320, 0, 3, 305);
        LitWindows both = Check.of("point a any;point b any;point c any;from a to c in 0;from b to c in 0;window c 0;window a 0;window c 0;window b 0;");
        wall("0 with 3 is better for a and for b", both, 5, 10 + 15 + 300, 0, 3, 5 + 5 + 300);
        LitWindows dark = Check.of("point a any;point b any;from a to b in 0;window b 0;window b 0;window a 0;");
        dark.stick(0, 2);
        wall("0 with 2 or 1 with 2: the lesser", dark, 5, 310, 0, 2, 305);
        dark.stick(0, 0);
        dark.stick(1, 2);
        wall("0 with 1 makes no odds, 0 with 2 does", dark, 5, 310, 0, 2, 305);
        dark.stick(2, 2);
        wall("nothing tells a", dark, 5, 600, -1, -1, -1);
    }

    /** "there are none, if none makes it less" */
    private static void noneToChange() {
        LitWindows x = Check.of("point a any;point b any;from a to b in 0;window a 0;window b 0;");
        wall("the best already", x, 5, 305, -1, -1, -1);
        LitWindows y = Check.of("point a any;point b any;window a 0;window b 0;");
        wall("no change makes any odds", y, 5, 10, -1, -1, -1);
    }

    /** "NONE for others, without a PLANT, if PACE can't be, or there are none." */
    private static void whatsOfWalls() {
        for (int what : new int[] {-1, -2, 4, 5, Integer.MIN_VALUE, Integer.MAX_VALUE}) {
            check.due("wall(5, " + what + ")", changeable().wall(5, what), -1);
        }
    }

    /** "NONE for others, without a PLANT" */
    private static void withoutPlant() {
        LitWindows x = new LitWindows();
        for (int what = -1; what <= 4; what++) {
            check.due("without a plant: wall(1, " + what + ")", x.wall(1, what), -1);
            check.due("without a plant: told(" + what + ", 1)", x.told(what, 1), -1);
            check.due("without a plant: change(0, " + what + ")", x.change(0, what), false);
        }
    }
}
