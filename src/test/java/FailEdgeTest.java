/** The edges that "Terms" 2 and promises 6 to 11 name: each method bears the sentence that it holds to. */
public final class FailEdgeTest {
    private static final Check check = new Check("FailEdgeTest");
    private static final int[] FAR_OFF = {Integer.MIN_VALUE, -4097, -2, -1, 4096, 4097, 65536, 1 << 30, Integer.MAX_VALUE};

    public static void main(String[] args) {
        failsOfItsOwnAtZero();
        anyAsSoonAsOne();
        allAsSoonAsEach();
        allWithoutArcsNever();
        ringsFailNotByThemselves();
        longestChain();
        heapsThatCanBe();
        pointsThatCanBe();
        windowsThatCanBe();
        waysToStick();
        partsOfWindow();
        votesCount();
        stuckLitFromZeroOn();
        stuckDarkNever();
        firstOutOfLikeOnes();
        firstOutOfNone();
        firstOutLies();
        hornLengths();
        hornsInTheSecondOfTheEnd();
        hornsOfNone();
        hornsOfTwelve();
        nothingThere();
        check.finish();
    }

    private static String points(int many, String kind) {
        StringBuilder s = new StringBuilder();
        for (int i = 0; i < many; i++) {
            s.append("point ").append((char) ('a' + i)).append(' ').append(kind).append(';');
        }
        return s.toString();
    }

    /** "A heap of POINTS FAILS of its own at second 0." */
    private static void failsOfItsOwnAtZero() {
        LitWindows x = Check.of("point a any;point b all;point c all;from a to b in 0;from b to c in 5;from c to a in 0;from c to c in 3;");
        for (int heap = 0; heap < 8; heap++) {
            for (int p = 0; p < 3; p++) {
                if ((heap >> p & 1) != 0) {
                    check.due("fails(" + heap + ", " + p + ")", x.fails(heap, p), 0);
                }
            }
        }
        check.due("b by a in the same second", x.fails(1, 1), 0);
        check.due("c of none: it waits for itself", x.fails(3, 2), -1);
        check.due("a and b by c", x.fails(4, 1), 0);
        check.due("the empty heap", x.fails(0, 0), -1);
    }

    /** "any: as soon as D seconds went since a POINT from which an ARC leads to it FAILED" */
    private static void anyAsSoonAsOne() {
        LitWindows x = Check.of("point a any;point b any;point c any;point d any;from a to c in 60;from b to c in 59;from c to d in 1;from a to d in 60;");
        check.due("by a", x.fails(1, 2), 60);
        check.due("by b", x.fails(2, 2), 59);
        check.due("by the sooner", x.fails(3, 2), 59);
        check.due("d by a straight", x.fails(1, 3), 60);
        check.due("d by b and c", x.fails(2, 3), 60);
        check.due("nothing goes back along an arc", x.fails(12, 0), -1);
        LitWindows y = Check.of("point a any;point b any;from a to b in 60;from a to b in 0;from a to b in 7;");
        check.due("the least of like arcs", y.fails(1, 1), 0);
    }

    /** "all: as soon as that is so for each of its ARCS" */
    private static void allAsSoonAsEach() {
        LitWindows x = Check.of("point a any;point b any;point c all;point d all;from a to c in 60;from b to c in 59;from c to d in 1;from a to d in 60;");
        check.due("a alone is not enough", x.fails(1, 2), -1);
        check.due("b alone is not enough", x.fails(2, 2), -1);
        check.due("by the later", x.fails(3, 2), 60);
        check.due("d behind both", x.fails(3, 3), 61);
        check.due("c of its own, a not", x.fails(4, 3), -1);
        check.due("c and a of their own", x.fails(5, 3), 60);
        LitWindows y = Check.of("point a any;point b all;from a to b in 60;from a to b in 0;from a to b in 7;");
        check.due("the greatest of like arcs", y.fails(1, 1), 60);
        LitWindows z = Check.of("point a any;point b all;from a to b in 3;");
        check.due("one arc", z.fails(1, 1), 3);
    }

    /** "(never without ARCS)" */
    private static void allWithoutArcsNever() {
        LitWindows x = Check.of("point a all;point b any;point c all;from a to b in 0;from b to c in 0;window a 0;");
        for (int heap = 0; heap < 8; heap++) {
            check.due("a by heap " + heap, x.fails(heap, 0), (heap & 1) != 0 ? 0 : -1);
            check.due("its window by heap " + heap, x.lit(heap, 0), (heap & 1) != 0 ? 0 : -1);
        }
        LitWindows y = Check.of(points(12, "all"));
        for (int p = 0; p < 12; p++) {
            check.due("all others fail", y.fails(4095 & ~(1 << p), p), -1);
        }
    }

    /** "of a ring of POINTS none fails by itself" */
    private static void ringsFailNotByThemselves() {
        for (String kind : new String[] {"any", "all"}) {
            for (int d : new int[] {0, 1, 60}) {
                LitWindows self = Check.of("point a " + kind + ";point b any;from a to a in " + d + ";");
                check.due("a ring of one, " + kind, self.fails(0, 0), -1);
                check.due("a ring of one, " + kind, self.fails(2, 0), -1);
                check.due("a ring of one, of its own", self.fails(1, 0), 0);
                StringBuilder ring = new StringBuilder(points(12, kind));
                for (int i = 0; i < 12; i++) {
                    ring.append("from ").append((char) ('a' + i)).append(" to ").append((char) ('a' + (i + 1) % 12)).append(" in ").append(d).append(';');
                }
                LitWindows x = Check.of(ring.toString());
                for (int p = 0; p < 12; p++) {
                    check.due("a ring of twelve, " + kind, x.fails(0, p), -1);
                    check.due("all the ring by its first", x.fails(1, p), p * d);
                    check.due("all the ring by its last", x.fails(1 << 11, p), p == 11 ? 0 : (p + 1) * d);
                }
            }
        }
    }

    /** As many points as can be behind one another, told the wrong way round: 660 seconds, and 60 more. */
    private static void longestChain() {
        for (int way = 0; way < 2; way++) {
            StringBuilder s = new StringBuilder(points(12, way == 0 ? "any" : "all"));
            for (int i = 0; i < 11; i++) {
                s.append("from ").append((char) ('l' - i)).append(" to ").append((char) ('k' - i)).append(" in 60;");
            }
            s.append("window a 60;window a 0;window l 0;");
            LitWindows x = Check.of(s.toString());
            for (int p = 0; p < 12; p++) {
                check.due("point " + p, x.fails(1 << 11, p), 60 * (11 - p));
            }
            check.due("the last window", x.lit(1 << 11, 0), 720);
            check.due("the one ahead", x.lit(1 << 11, 1), 660);
            check.due("the first", x.lit(1 << 11, 2), 0);
            check.due("not lit yet", x.board(1 << 11, 719, 0), 6);
            check.due("lit", x.board(1 << 11, 720, 0), 7);
            check.due("lit to the last second", x.board(1 << 11, 999, 0), 7);
            check.due("horns", x.horns(1 << 11, 60), 3);
        }
    }

    /** "if a heap (bits) fails of its own; NONE if .. there are none such": 0 .. all points */
    private static void heapsThatCanBe() {
        for (int many = 1; many <= 12; many++) {
            LitWindows x = Check.of(points(many, "any") + "window a 3;");
            int all = (1 << many) - 1;
            check.due("all of " + many, x.fails(all, many - 1), 0);
            check.due("all of " + many + ": lit", x.lit(all, 0), 3);
            check.due("all of " + many + ": first", x.first(all, 0), 0);
            check.due("all of " + many + ": horns", x.horns(all, 1), 1);
            check.due("all of " + many + ": board", x.board(all, 3, 0), 1);
            check.due("none of " + many + ": fails", x.fails(0, 0), -1);
            check.due("none of " + many + ": horns", x.horns(0, 1), 0);
            check.due("none of " + many + ": board", x.board(0, 999, 0), 0);
            noHeap(x, all + 1);
            noHeap(x, all + 2);
            noHeap(x, -1);
            noHeap(x, all | Integer.MIN_VALUE);
        }
        LitWindows x = Check.of(points(12, "any") + "window a 3;");
        for (int heap : FAR_OFF) {
            noHeap(x, heap);
        }
    }

    private static void noHeap(LitWindows x, int heap) {
        check.due("fails(" + heap + ", 0)", x.fails(heap, 0), -1);
        check.due("lit(" + heap + ", 0)", x.lit(heap, 0), -1);
        check.due("first(" + heap + ", 0)", x.first(heap, 0), -1);
        check.due("first(" + heap + ", 1)", x.first(heap, 1), -1);
        check.due("horns(" + heap + ", 1)", x.horns(heap, 1), -1);
        check.due("board(" + heap + ", 5, 0)", x.board(heap, 5, 0), -1);
        check.due("board(" + heap + ", 5, 1)", x.board(heap, 5, 1), -1);
    }

    /** "The second at which a POINT FAILS .. NONE if it doesn't, or there are none such." */
    private static void pointsThatCanBe() {
        for (int many = 1; many <= 12; many++) {
            LitWindows x = Check.of(points(many, "any"));
            int all = (1 << many) - 1;
            for (int p = 0; p < many; p++) {
                check.due("point " + p + " of " + many, x.fails(all, p), 0);
                check.due("point " + p + " of " + many + " by none", x.fails(0, p), -1);
            }
            check.due("point " + many + " of " + many, x.fails(all, many), -1);
            check.due("point -1 of " + many, x.fails(all, -1), -1);
            check.due("point MIN", x.fails(all, Integer.MIN_VALUE), -1);
            check.due("point MAX", x.fails(all, Integer.MAX_VALUE), -1);
        }
    }

    /** "NONE for others, or if there is none such"; "false if there is none such" */
    private static void windowsThatCanBe() {
        for (int many = 0; many <= 12; many++) {
            LitWindows x = Check.of("point a any;" + "window a 7;".repeat(many));
            for (int w = 0; w < many; w++) {
                check.due("window " + w + " of " + many, x.window(w, 1), 7);
                check.due("lit " + w + " of " + many, x.lit(1, w), 7);
                check.due("lit by none " + w + " of " + many, x.lit(0, w), -1);
                check.due("stick " + w + " of " + many, x.stick(w, 1), true);
            }
            check.due("they stick", x.count(6), many);
            for (int w : new int[] {-1, Integer.MIN_VALUE, many, many + 1, 12, Integer.MAX_VALUE}) {
                for (int what = 0; what < 4; what++) {
                    check.due("window(" + w + ", " + what + ") of " + many, x.window(w, what), -1);
                }
                check.due("lit(1, " + w + ") of " + many, x.lit(1, w), -1);
                for (int how = 0; how < 3; how++) {
                    check.due("stick(" + w + ", " + how + ") of " + many, x.stick(w, how), false);
                }
            }
            check.due("no more and no fewer stick", x.count(6), many);
        }
    }

    /** "A WINDOW STICKS: 0 not, 1 lit, 2 dark: true; false if .. it can't be." */
    private static void waysToStick() {
        for (int was = 0; was < 3; was++) {
            for (int how : new int[] {Integer.MIN_VALUE, -2, -1, 3, 4, 100, Integer.MAX_VALUE}) {
                LitWindows x = Check.of("point a any;window a 7;window a 8;");
                check.due("stick as it was", x.stick(1, was), true);
                check.due("stick(1, " + how + ")", x.stick(1, how), false);
                check.due("as it was", x.window(1, 2), was);
                check.due("as it was", x.lit(1, 1), was == 0 ? 8 : was == 1 ? 0 : -1);
                check.due("the other", x.window(0, 2), 0);
            }
            for (int how = 0; how < 3; how++) {
                LitWindows x = Check.of("point a any;window a 7;window a 8;");
                x.stick(1, was);
                check.due("stick(1, " + how + ") from " + was, x.stick(1, how), true);
                check.due("how", x.window(1, 2), how);
                check.due("the other", x.window(0, 2), 0);
                check.due("how many", x.count(6), how == 0 ? 0 : 1);
            }
        }
    }

    /** "Of a WINDOW: 0 its POINT, 1 the LAG that counts, 2 how it STICKS, 3 its PLACE. NONE for others" */
    private static void partsOfWindow() {
        LitWindows x = Check.of(points(12, "any") + "window l 60;window a 0;window c 1 5 of 2;");
        x.stick(0, 2);
        x.stick(2, 1);
        x.change(0, 2);
        int[][] due = {{11, 60, 2, 2}, {0, 0, 0, 1}, {2, 5, 1, 0}};
        for (int w = 0; w < 3; w++) {
            for (int what = 0; what < 4; what++) {
                check.due("window(" + w + ", " + what + ")", x.window(w, what), due[w][what]);
            }
            for (int what : new int[] {-1, -2, 4, 5, Integer.MIN_VALUE, Integer.MAX_VALUE}) {
                check.due("window(" + w + ", " + what + ")", x.window(w, what), -1);
            }
        }
    }

    /** "its K-th least LAG together (the only LAG without of)": each order of three, also of like ones */
    private static void votesCount() {
        int[] some = {0, 1, 30, 60};
        for (int a : some) {
            for (int b : some) {
                LitWindows y = Check.of("point a any;window a " + a + " " + b + " of 1;window a " + a + " " + b + " of 2;window a " + a + ";");
                check.due("least of " + a + " " + b, y.lit(1, 0), Math.min(a, b));
                check.due("greatest of " + a + " " + b, y.lit(1, 1), Math.max(a, b));
                check.due("the only one", y.lit(1, 2), a);
                for (int c : some) {
                    int[] sorted = {a, b, c};
                    java.util.Arrays.sort(sorted);
                    String head = "window a " + a + " " + b + " " + c + " of ";
                    LitWindows x = Check.of("point a any;" + head + "1;" + head + "2;" + head + "3;");
                    for (int k = 0; k < 3; k++) {
                        check.due(head + (k + 1), x.window(k, 1), sorted[k]);
                        check.due(head + (k + 1) + " lit", x.lit(1, k), sorted[k]);
                    }
                }
            }
        }
    }

    /** "if it STICKS lit, from 0 on, whatever fails" */
    private static void stuckLitFromZeroOn() {
        LitWindows x = Check.of("point a any;point b all;window a 60;window b 60;");
        x.stick(0, 1);
        x.stick(1, 1);
        for (int heap = 0; heap < 4; heap++) {
            check.due("lit by heap " + heap, x.lit(heap, 0), 0);
            check.due("lit by heap " + heap, x.lit(heap, 1), 0);
            check.due("on the board at 0", x.board(heap, 0, 0), 3);
            check.due("on the board at 999", x.board(heap, 999, 0), 3);
        }
        check.due("no such heap", x.lit(4, 0), -1);
        check.due("no such heap", x.lit(-1, 0), -1);
        check.due("points fail as before", x.fails(0, 0), -1);
    }

    /** "if it STICKS dark, never" */
    private static void stuckDarkNever() {
        LitWindows x = Check.of("point a any;point b any;from a to b in 4;window a 0;window b 0;");
        x.stick(0, 2);
        for (int heap = 0; heap < 4; heap++) {
            check.due("dark by heap " + heap, x.lit(heap, 0), -1);
            check.due("not on the board", x.board(heap, 999, 0) & 1, 0);
        }
        check.due("its point fails no less", x.fails(1, 0), 0);
        check.due("and brings the next", x.lit(1, 1), 4);
        x.stick(0, 0);
        check.due("no more", x.lit(1, 0), 0);
    }

    /** "FIRST OUT is the WINDOW that doesn't STICK and is LIT first, of like ones the least." */
    private static void firstOutOfLikeOnes() {
        LitWindows x = Check.of("point a any;" + "window a 9;".repeat(12));
        for (int w = 0; w < 12; w++) {
            check.due("the least of like ones", x.first(1, 0), w);
            x.stick(w, 1 + w % 2);
        }
        check.due("all stick", x.first(1, 0), -1);
        check.due("all stick", x.first(1, 1), -1);
        LitWindows y = Check.of("point a any;window a 60;window a 59;window a 60;window a 59;");
        check.due("one second sooner", y.first(1, 0), 1);
        y.stick(1, 1);
        check.due("it sticks lit from 0 on", y.first(1, 0), 3);
        y.stick(3, 2);
        check.due("of like ones the least", y.first(1, 0), 0);
        LitWindows z = Check.of("point a any;window a 1;window a 0;");
        check.due("in second 0", z.first(1, 0), 1);
    }

    /** "NONE if there is none, for others, or if the heap can't be." */
    private static void firstOutOfNone() {
        LitWindows x = Check.of("point a any;point b any;window a 5;");
        check.due("none fails", x.first(0, 0), -1);
        check.due("none fails", x.first(0, 1), -1);
        check.due("b has none", x.first(2, 0), -1);
        check.due("b has none", x.first(2, 1), -1);
        for (int what : new int[] {-1, -2, 2, 3, Integer.MIN_VALUE, Integer.MAX_VALUE}) {
            check.due("first(1, " + what + ")", x.first(1, what), -1);
        }
        check.due("first(4, 0)", x.first(4, 0), -1);
        check.due("first(-1, 0)", x.first(-1, 0), -1);
        check.due("first(3, 0)", x.first(3, 0), 0);
        LitWindows y = Check.of("point a any;");
        check.due("no windows at all", y.first(1, 0), -1);
        check.due("no windows at all", y.first(1, 1), -1);
    }

    /** "It LIES, if its POINT is none of the heap's." */
    private static void firstOutLies() {
        LitWindows x = Check.of("point a any;point b any;point c any;from a to b in 0;window b 0;window a 0;window c 1;");
        int[] out = {-1, 0, 0, 0, 2, 0, 0, 0};
        int[] lies = {-1, 1, 0, 0, 0, 1, 0, 0};
        for (int heap = 0; heap < 8; heap++) {
            check.due("first(" + heap + ", 0)", x.first(heap, 0), out[heap]);
            check.due("first(" + heap + ", 1)", x.first(heap, 1), lies[heap]);
        }
        LitWindows y = Check.of(points(12, "any") + "from a to l in 1;window l 0;");
        check.due("the last point", y.first(1 << 11, 1), 0);
        check.due("the last point lies", y.first(1, 1), 1);
        check.due("all but it", y.first(2047, 1), 1);
        check.due("all", y.first(4095, 1), 0);
    }

    /** "HORNS that begin, of s seconds (1 .. 60); NONE if they can't be." */
    private static void hornLengths() {
        LitWindows x = Check.of("point a any;window a 0;window a 1;window a 59;window a 60;");
        check.due("s 1", x.horns(1, 1), 4);
        check.due("s 2", x.horns(1, 2), 2);
        check.due("s 59", x.horns(1, 59), 2);
        check.due("s 60", x.horns(1, 60), 2);
        for (int s : new int[] {0, -1, -60, 61, 62, 600, Integer.MIN_VALUE, Integer.MAX_VALUE}) {
            check.due("s " + s, x.horns(1, s), -1);
            check.due("s " + s + " of none", x.horns(0, s), -1);
        }
    }

    /** "what gets LIT while one sounds (also in the second it began) begins none; in the second at which it has ended another one can begin" */
    private static void hornsInTheSecondOfTheEnd() {
        for (int s = 1; s <= 60; s++) {
            LitWindows x = Check.of("point a any;window a 0;window a 0;window a " + s + ";window a " + (s - 1) + ";");
            check.due("the second at which it has ended, s " + s, x.horns(1, s), 2);
            if (s < 60) {
                check.due("one longer sounds then", x.horns(1, s + 1), 1);
            }
        }
        LitWindows y = Check.of("point a any;window a 10;window a 14;window a 15;window a 18;window a 20;");
        check.due("what begins none makes none longer", y.horns(1, 5), 3);
    }

    /** "as a WINDOW that doesn't STICK gets LIT" */
    private static void hornsOfNone() {
        LitWindows x = Check.of("point a any;point b any;window a 0;window a 30;");
        check.due("none fails", x.horns(0, 1), 0);
        check.due("b has none", x.horns(2, 60), 0);
        x.stick(0, 1);
        check.due("one that sticks lit, at 0", x.horns(0, 1), 0);
        check.due("the other", x.horns(1, 60), 1);
        x.stick(1, 1);
        check.due("both stick lit", x.horns(1, 1), 0);
        x.stick(1, 2);
        check.due("one is dark", x.horns(1, 1), 0);
        LitWindows y = Check.of("point a any;");
        check.due("no windows at all", y.horns(1, 1), 0);
        check.due("no windows at all", y.horns(0, 60), 0);
    }

    /** "HORNS that begin": as many as there can be windows */
    private static void hornsOfTwelve() {
        StringBuilder s = new StringBuilder("point a any;");
        for (int i = 0; i < 12; i++) {
            s.append("window a ").append(55 - 5 * i).append(';');
        }
        LitWindows x = Check.of(s.toString());
        check.due("each its own", x.horns(1, 5), 12);
        check.due("every other", x.horns(1, 6), 6);
        check.due("every other", x.horns(1, 10), 6);
        check.due("one", x.horns(1, 56), 1);
        check.due("55: the last begins one", x.horns(1, 55), 2);
    }

    /** No plant; a plant without windows. */
    private static void nothingThere() {
        LitWindows none = new LitWindows();
        noHeap(none, 0);
        noHeap(none, 1);
        noHeap(none, -1);
        for (int w = -1; w < 2; w++) {
            for (int what = -1; what < 5; what++) {
                check.due("without a plant: window", none.window(w, what), -1);
                check.due("without a plant: stick", none.stick(w, what), false);
            }
        }
        check.due("without a plant: none sticks", none.count(6), 0);
        LitWindows bare = Check.of("point a any;");
        for (int what = -1; what < 5; what++) {
            check.due("without windows: window", bare.window(0, what), -1);
            check.due("without windows: stick", bare.stick(0, what), false);
        }
        check.due("without windows: lit", bare.lit(1, 0), -1);
        check.due("without windows: none sticks", bare.count(6), 0);
        check.due("without windows: fails", bare.fails(1, 0), 0);
    }
}
