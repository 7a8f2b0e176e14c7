/** Promises 22 to 24: change, told, wall. */
public final class WallTest {
    private static final Check check = new Check("WallTest");
    private static final String PLANT = "point a any; point b any; point c any; from a to c in 4; from b to c in 2;"
        + "window c 0; window a 9; window b 3; window a 6;";

    public static void main(String[] args) {
        changing();
        telling();
        stuckOnes();
        hiddenOnes();
        onePoint();
        walls();
        changesToMake();
        check.finish();
    }

    private static void changing() {
        LitWindows x = Check.of(PLANT);
        check.due("change(0, 0)", x.change(0, 0), false);
        check.due("change(-1, 0)", x.change(-1, 0), false);
        check.due("change(0, 4)", x.change(0, 4), false);
        check.due("change(4, 0)", x.change(4, 0), false);
        check.due("change(3, 1)", x.change(3, 1), true);
        check.due("place of 1", x.window(1, 3), 3);
        check.due("place of 3", x.window(3, 3), 1);
        check.due("change(0, 1)", x.change(0, 1), true);
        int[] due = {1, 3, 2, 0};
        for (int w = 0; w < 4; w++) {
            check.due("place of " + w, x.window(w, 3), due[w]);
        }
    }

    private static void telling() {
        LitWindows x = Check.of(PLANT);
        check.due("a: c's at 4, then 3 at 6", x.told(0, 1), 7);
        check.due("b: c's at 2, then 2 at 3", x.told(1, 1), 4);
        check.due("c: like both", x.told(2, 1), -1);
        check.due("a slowly: 0 at 4 till 9, then 1", x.told(0, 5), 14);
        x.change(0, 3);
        check.due("a with 3 ahead of 0: no other way", x.told(0, 1), 7);
        check.due("b by 30: 0 till 32, 2 till 62", x.told(1, 30), 62);
        x.till(62);
        check.due("not behind T", x.told(1, 30), 62);
        x.till(61);
        check.due("behind T", x.told(1, 30), -1);
        check.due("told(3, 1)", x.told(3, 1), -1);
        check.due("told(-1, 1)", x.told(-1, 1), -1);
        check.due("told(0, 0)", x.told(0, 0), -1);
        check.due("told(0, 31)", x.told(0, 31), -1);
        x.till(3);
        check.due("b: 0 till 3 tells nothing, 2 ends behind T", x.told(1, 1), -1);
        check.due("c has 0 then as b does", x.told(2, 1), -1);
        x.till(4);
        check.due("b: 2 till 4", x.told(1, 1), 4);
        x.stick(0, 2);
        x.change(1, 2);
        x.till(9);
        check.due("a alone has 3 at T 9, also before it is read", x.told(0, 3), 9);
        x.till(8);
        check.due("but ends behind T 8", x.told(0, 3), -1);
    }

    private static void stuckOnes() {
        LitWindows x = Check.of(PLANT);
        x.stick(3, 1);
        check.due("a: 3 is read first but tells nothing", x.told(0, 1), 10);
        x.stick(3, 2);
        check.due("a: 3 is dark", x.told(0, 1), 10);
        x.stick(0, 1);
        check.due("b by 0, which sticks, till 5, then 2", x.told(1, 5), 10);
        x.stick(2, 2);
        check.due("b: none left", x.told(1, 5), -1);
    }

    private static void hiddenOnes() {
        LitWindows x = Check.of("point a any; point b any; from a to b in 0; window b 1; window a 3; window a 7; window b 3;"
            + "hide 1 while 0 not 3; hide 0 while 3; hide 1 while 3;");
        check.due("1 is hidden always, 2 tells", x.told(0, 1), 8);
        x.rest(2, true);
        check.due("1 is hidden till 3", x.told(0, 1), 4);
        x.rest(0, true);
        check.due("as before", x.told(0, 1), 4);
        x.rest(1, true);
        check.due("0 from 1 till 3, 1 then", x.told(0, 2), 5);
    }

    private static void onePoint() {
        LitWindows x = Check.of("point a any; window a 5;");
        check.due("by a reading alone", x.told(0, 3), 8);
        x.stick(0, 1);
        check.due("also of one that sticks", x.told(0, 3), 3);
        x.stick(0, 2);
        check.due("without a reading", x.told(0, 3), -1);
        StringBuilder s = new StringBuilder("point a any; point b any; from a to b in 0; window a 12;");
        for (int i = 1; i <= 11; i++) {
            s.append("window b ").append(i).append(';');
        }
        LitWindows z = Check.of(s.toString());
        check.due("the board changes at 13 seconds", z.told(0, 1), 13);
        z.change(0, 11);
        check.due("read as the twelfth", z.told(0, 2), 25);
        check.due("b: all stages, and nothing told", z.told(1, 1), -1);
        LitWindows u = Check.of(s.toString().replace("window a", "window b"));
        check.due("b: thirteen stages, and nothing told", u.told(1, 1), -1);
        LitWindows y = Check.of("point a any;");
        check.due("without windows", y.told(0, 1), -1);
        check.due("without windows", y.wall(1, 0), 300);
        check.due("without windows", y.wall(1, 1), -1);
    }

    private static void walls() {
        LitWindows x = Check.of(PLANT);
        check.due("sum by 1", x.wall(1, 0), 7 + 4 + 300);
        x.till(100);
        check.due("sum by 5", x.wall(5, 0), 14 + 12 + 100);
        check.due("wall(0, 0)", x.wall(0, 0), -1);
        check.due("wall(31, 0)", x.wall(31, 0), -1);
        check.due("wall(1, 4)", x.wall(1, 4), -1);
        check.due("wall(1, -1)", x.wall(1, -1), -1);
        check.due("wall(10, -1) where there is one to change", changeable().wall(10, -1), -1);
        check.due("wall(10, 4) where there is one to change", changeable().wall(10, 4), -1);
        for (int what = 1; what < 4; what++) {
            check.due("none makes it less", x.wall(1, what), -1);
        }
    }

    private static LitWindows changeable() {
        return Check.of("point a any; point b any; point c any; from a to b in 0; from c to b in 0;"
            + "window b 0; window b 0; window a 0; window c 0; window b 0;");
    }

    private static void changesToMake() {
        LitWindows x = changeable();
        check.due("sum", x.wall(10, 0), 30 + 30 + 300);
        check.due("lesser", x.wall(10, 1), 0);
        check.due("greater", x.wall(10, 2), 3);
        check.due("the sum then", x.wall(10, 3), 20 + 10 + 300);
        check.due("the wall is as it was", x.window(3, 3), 3);
        check.due("change it", x.change(0, 3), true);
        check.due("sum", x.wall(10, 0), 20 + 10 + 300);
        check.due("lesser", x.wall(10, 1), 1);
        check.due("greater", x.wall(10, 2), 2);
        check.due("the sum then", x.wall(10, 3), 10 + 10 + 300);
        x.change(2, 1);
        check.due("no more", x.wall(10, 1), -1);
        LitWindows y = Check.of("point a any; point b any; from a to b in 0; window b 0; window b 0; window a 0; window a 0;");
        check.due("of like ones the first", y.wall(10, 1), 0);
        check.due("of like ones the first", y.wall(10, 2), 2);
        check.due("of like ones the first", y.wall(10, 3), 10 + 300);
    }
}
