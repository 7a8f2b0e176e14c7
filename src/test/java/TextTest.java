/** Promises 1 to 5 and 25: a new object, feed, end, fault, plant, count. */
public final class TextTest {
    private static final Check check = new Check("TextTest");
    private static final String PLANT =
        "point a any; point b all; from a to b in 3; window a 1; window b 2 9 4 of 2; hide 0 while 1;";

    public static void main(String[] args) {
        newObject();
        heapsWithoutPlant();
        feeding();
        ending();
        wholeTexts();
        faultsOfWords();
        faultsOfNumbers();
        faultsOfLimits();
        faultsOfBytes();
        planting();
        counting();
        check.finish();
    }

    private static void fault(String text, int want) {
        check.due("fault of [" + text + "]", Check.faultOf(text), want);
    }

    private static void newObject() {
        LitWindows x = new LitWindows();
        for (int what = 0; what < 8; what++) {
            check.due("new: count(" + what + ")", x.count(what), 0);
            check.due("new: explain(" + what + ")", x.explain(what), -1);
            check.due("new: harm(" + what + ")", x.harm(what), -1);
            check.due("new: wall(1, " + what + ")", x.wall(1, what), -1);
            check.due("new: window(0, " + what + ")", x.window(0, what), -1);
        }
        check.due("new: fails", x.fails(0, 0), -1);
        check.due("new: lit", x.lit(0, 0), -1);
        check.due("new: first", x.first(0, 0), -1);
        check.due("new: heap 1", x.horns(1, 5), -1);
        check.due("new: board", x.board(1, 0, 0), -1);
        check.due("new: log", x.log(0, 0), -1);
        check.due("new: erase", x.erase(), 0);
        check.due("new: joined", x.joined(5), 0);
        check.due("new: altered", x.altered(0, 5), -1);
        check.due("new: told", x.told(0, 1), -1);
        check.due("new: stick", x.stick(0, 1), false);
        check.due("new: rest", x.rest(0, true), false);
        check.due("new: change", x.change(0, 1), false);
        check.due("new: fault", x.fault(), 0);
        check.due("new: plant", x.plant(), -1);
        check.due("new: till", x.till(5), true);
        check.due("new: off", x.off(5), true);
    }

    /** Promises 8 to 11 and 20: not even the empty heap can be, until a plant has come. */
    private static void heapsWithoutPlant() {
        LitWindows x = new LitWindows();
        noHeapCanBe("new", x);
        Check.write(x, "point a any; oops");
        noHeapCanBe("with a text that has a fault", x);
        check.due("plant with a fault", x.plant(), -1);
        noHeapCanBe("a refused plant is none", x);
        Check.write(x, "point a any;");
        check.due("fault of a whole text", x.fault(), -1);
        noHeapCanBe("a text alone is none", x);
        check.due("plant", x.plant(), 1);
        check.due("a plant without windows: horns", x.horns(0, 1), 0);
        check.due("a plant without windows: lit", x.board(0, 0, 0), 0);
        check.due("a plant without windows: shown", x.board(0, 999, 1), 0);
        Check.write(x, "oops");
        check.due("a fault behind a plant", x.plant(), -1);
        check.due("the plant ahead stays: horns", x.horns(1, 60), 0);
        check.due("the plant ahead stays: board", x.board(1, 0, 0), 0);
    }

    private static void noHeapCanBe(String when, LitWindows x) {
        for (int heap = -1; heap <= 1; heap++) {
            String at = when + ": heap " + heap;
            check.due(at + " fails", x.fails(heap, 0), -1);
            check.due(at + " lit", x.lit(heap, 0), -1);
            for (int what = 0; what <= 1; what++) {
                check.due(at + " first " + what, x.first(heap, what), -1);
                check.due(at + " board " + what, x.board(heap, 0, what), -1);
                check.due(at + " board at 999 " + what, x.board(heap, 999, what), -1);
            }
            check.due(at + " horns of 1", x.horns(heap, 1), -1);
            check.due(at + " horns of 60", x.horns(heap, 60), -1);
        }
    }

    private static void feeding() {
        LitWindows x = new LitWindows();
        for (int i = 1; i <= 30; i++) {
            check.due("feed " + i, x.feed(i, -1, 0, 0x80000000, 7), 20 * i);
        }
        check.due("feed over 600", x.feed(1, 2, 3, 4, 5), -1);
        check.due("feed over 600 changes nothing", x.count(7), 600);
        x.end(581);
        check.due("feed 601", x.feed(1, 2, 3, 4, 5), -1);
        check.due("feed 601 changes nothing", x.count(7), 581);
        x.end(580);
        check.due("feed 600", x.feed(1, 2, 3, 4, 5), 600);
        x.end(0);
        check.due("highest byte first", x.feed(0x706f696e, 0x74206120, 0x616e793b, 0x20202020, 0x20202020), 20);
        check.due("highest byte first", x.plant(), 1);
    }

    private static void ending() {
        LitWindows x = new LitWindows();
        check.due("end(0)", x.end(0), true);
        check.due("end(1) of none", x.end(1), false);
        x.feed(0x706f696e, 0x74206120, 0x616e793b, 0x3b3b3b3b, 0x3b3b3b3b);
        check.due("end(21)", x.end(21), false);
        check.due("end(-1)", x.end(-1), false);
        check.due("end(MIN)", x.end(Integer.MIN_VALUE), false);
        check.due("refused ends change nothing", x.count(7), 20);
        check.due("end(20)", x.end(20), true);
        check.due("fault of 20", x.fault(), 12);
        check.due("end(12)", x.end(12), true);
        check.due("count after end", x.count(7), 12);
        check.due("end(13)", x.end(13), false);
        check.due("fault of 12", x.fault(), -1);
    }

    private static void wholeTexts() {
        fault(PLANT, -1);
        fault("point a any;", -1);
        fault("point abcdefgh all;", -1);
        fault("point a any;from a to a in60;window a0;", -1);
        fault("  \n point\na\n\nany ;\n \n", -1);
        fault("point a any;window a 5 5of2;", -1);
        fault("point a any;window a 007 00 060 of 03;window a 1;hide 00 while 01;", -1);
        fault("point a any;from a to a in " + Check.repeat("0", 400) + "7;", -1);
        fault("point pointy any;point ofx any;from pointy to ofx in 0;", -1);
        fault("point a any;point b any;from a to b in 1;from a to b in 1;", -1);
    }

    private static void faultsOfWords() {
        String[] kept = {"point", "any", "all", "from", "to", "in", "window", "of", "hide", "while", "not"};
        for (String word : kept) {
            fault("point " + word + " any;", 6);
        }
        fault("point abcdefghi any;", 6);
        fault("point abcdefgh any; point abcdefghi any;", 26);
        fault("point a any; point a any;", 19);
        fault("point 1 any;", 6);
        fault("point a none;", 8);
        fault("point a any all;", 12);
        fault("pointa any;", 0);
        fault("a", 0);
        fault(";", 0);
        fault("5", 0);
        fault("any", 0);
        fault("point a any;;", 12);
        fault("from a to b in 1;", 5);
        fault("point a any; from b to a in 1;", 18);
        fault("point a any; from a to b in 1; point b any;", 23);
        fault("point a any; from a in 1;", 20);
        fault("point a any; from a to a of 1;", 25);
        fault("window a 1;", 7);
        fault("point a any; window b 1;", 20);
        fault("point a any; window a;", 21);
        fault("point a any; window a of 1;", 22);
        fault("point a any; window a 5 of 1;", 24);
        fault("point a any; window a 5 6;", 25);
        fault("point a any; window a 5 6 7;", 27);
        fault("point a any; window a 5 6 of;", 28);
        fault("point a any; window a 5 6 of 1 2;", 31);
        fault("point a any; window a 1; window a 2; hide 0 when 1;", 44);
        fault("point a any; window a 1; window a 2; hide 0 while 1 but 1;", 52);
        fault("point a any; window a 1; window a 2; hide a while 1;", 42);
    }

    private static void faultsOfNumbers() {
        fault("point a any; from a to a in 61;", 28);
        fault("point a any; from a to a in 4294967297;", 28);
        fault("point a any; from a to a in 99999999999999999999999999;", 28);
        fault("point a any; window a 61;", 22);
        fault("point a any; window a 60 61 of 1;", 25);
        fault("point a any; window a 1 2 61 of 1;", 26);
        fault("point a any; window a 1 2 3 4 of 1;", 28);
        fault("point a any; window a 1 2 of 0;", 29);
        fault("point a any; window a 1 2 of 3;", 29);
        fault("point a any; window a 1 2 3 of 4;", 31);
        fault("point a any; hide 0 while 1;", 18);
        fault("point a any; window a 1; hide 1 while 0;", 30);
        fault("point a any; window a 1; hide 0 while 1;", 38);
        fault("point a any; window a 1; hide 0 while 00;", 38);
        fault("point a any; window a 1; window a 2; hide 0 while 1 not 0;", 56);
        fault("point a any; window a 1; window a 2; hide 0 while 1 not 1;", 56);
        fault("point a any; window a 1; window a 2; hide 0 while 1 not 2;", 56);
    }

    private static void faultsOfLimits() {
        StringBuilder points = new StringBuilder();
        for (int i = 0; i < 12; i++) {
            points.append("point ").append((char) ('a' + i)).append(" any;");
        }
        fault(points.toString(), -1);
        fault(points + " point a some", 145);
        fault(points + "point", 144);
        String arcs = "point a any;" + Check.repeat("from a to a in 1;", 24);
        fault(arcs, -1);
        fault(arcs + " from", 421);
        String windows = "point a any;" + Check.repeat("window a 1;", 12);
        fault(windows, -1);
        fault(windows + "window a 1;", 144);
        String rules = "point a any;window a 1;window a 1;" + Check.repeat("hide 0 while 1;", 8);
        fault(rules, -1);
        fault(rules + " hide 0 while 1;", 155);
    }

    private static void faultsOfBytes() {
        fault("", 0);
        fault("   \n", 4);
        fault("point a any;\t", 12);
        fault("Point a any;", 0);
        fault("poinT a any;", 0);
        fault("point A any;", 6);
        fault("point a any;\r\n", 12);
        fault("point a any;" + (char) 0, 12);
        fault("point a any;" + (char) 233, 12);
        fault("point a, b any;", 7);
        fault("point a any; from a to a in -1;", 28);
        fault("point a some; $", 8);
        fault("point a any", 11);
        fault("point a any ", 12);
        fault("point a any; from a to a in 60", 30);
        fault("point a any; window a 1 2\n", 26);
        fault("point", 5);
    }

    private static void planting() {
        LitWindows x = Check.of(PLANT);
        check.due("text is empty then", x.count(7), 0);
        x.stick(0, 1);
        x.rest(0, true);
        x.change(0, 1);
        x.log(0, 9);
        x.till(2);
        x.off(2);
        Check.write(x, "point c any; oops");
        check.due("plant with a fault", x.plant(), -1);
        check.due("its text stays", x.count(7), 17);
        check.due("its plant stays", x.count(0), 2);
        check.due("its sticking stays", x.count(6), 1);
        check.due("its resting stays", x.count(5), 1);
        check.due("its log stays", x.count(4), 1);
        check.due("its places stay", x.window(0, 3), 1);
        Check.write(x, PLANT);
        check.due("fault makes no plant", x.fault(), -1);
        check.due("fault makes no plant", x.count(4), 1);
        check.due("plant again", x.plant(), 2);
        check.due("no window sticks", x.count(6), 0);
        check.due("no rule rests", x.count(5), 0);
        check.due("the log is empty", x.count(4), 0);
        check.due("window 0 is at place 0", x.window(0, 3), 0);
        check.due("window 1 is at place 1", x.window(1, 3), 1);
        x.log(0, 10);
        x.log(1, 18);
        check.due("E stays: none and a cost the same", x.explain(4), 2);
        check.due("T stays: a is told at 2, b not", x.wall(1, 0), 2 + 2);
    }

    private static void counting() {
        LitWindows x = Check.of("point a any; point b all; point c any; from a to b in 3; from b to c in 0; from a to a in 1;"
            + "from c to a in 9; window a 1; window b 2; hide 0 while 1; hide 1 while 0; hide 1 while 0;");
        check.due("points", x.count(0), 3);
        check.due("arcs", x.count(1), 4);
        check.due("windows", x.count(2), 2);
        check.due("rules", x.count(3), 3);
        x.log(0, 1);
        x.log(1, 1);
        check.due("rows", x.count(4), 2);
        x.rest(0, true);
        x.rest(2, true);
        check.due("rules that rest", x.count(5), 2);
        x.stick(0, 2);
        x.stick(1, 1);
        check.due("windows that stick", x.count(6), 2);
        x.stick(0, 0);
        check.due("windows that stick", x.count(6), 1);
        x.feed(0, 0, 0, 0, 0);
        check.due("bytes", x.count(7), 20);
        check.due("count(8)", x.count(8), -1);
        check.due("count(-1)", x.count(-1), -1);
        check.due("NONE", LitWindows.NONE, -1);
    }
}
