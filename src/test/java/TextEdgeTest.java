/** The edges that "Terms" 1 and promises 1 to 5 and 25 name: each method bears the sentence that it holds to. */
public final class TextEdgeTest {
    private static final Check check = new Check("TextEdgeTest");
    private static final String A = "point a any;";

    public static void main(String[] args) {
        newObject();
        feedHighestFirst();
        feedAtMost600();
        endFirstBytesAlone();
        everyByteInAName();
        everyByteAsAName();
        everyByteInANumber();
        everyByteBetween();
        tokensAsLongAsCanBe();
        anyNumberInAnyOrder();
        atMost12Points();
        atMost24Arcs();
        atMost12Windows();
        atMost8Rules();
        atMostOfAll();
        names();
        keptWords();
        delays();
        lags();
        votes();
        ruleNumbers();
        toldAhead();
        firstOfFaults();
        whatMayStandWhere();
        endsTooEarly();
        noPoint();
        longTexts();
        plantTakesThePlace();
        plantWithFaultStays();
        counts();
        check.finish();
    }

    private static void fault(String text, int want) {
        check.due("fault of [" + text + "]", Check.faultOf(text), want);
    }

    /** No fault, and the plant has so many points, arcs, windows and rules. */
    private static void stands(String text, int points, int arcs, int windows, int rules) {
        LitWindows x = new LitWindows();
        Check.write(x, text);
        check.due("fault of [" + text + "]", x.fault(), -1);
        check.due("plant of [" + text + "]", x.plant(), points);
        int[] due = {points, arcs, windows, rules, 0, 0, 0, 0};
        for (int what = 0; what < 8; what++) {
            check.due("count(" + what + ") of [" + text + "]", x.count(what), due[what]);
        }
    }

    /** "No PLANT." */
    private static void newObject() {
        LitWindows x = new LitWindows();
        for (int what = -2; what <= 9; what++) {
            check.due("new: count(" + what + ")", x.count(what), what >= 0 && what <= 7 ? 0 : -1);
        }
        check.due("new: the text is empty, so it has no point", x.fault(), 0);
        check.due("new: no plant comes of no text", x.plant(), -1);
        check.due("new: still no text", x.count(7), 0);
        check.due("new: end(0)", x.end(0), true);
        check.due("new: end(1)", x.end(1), false);
        check.due("new: end(-1)", x.end(-1), false);
    }

    /** "Bytes come behind those of the text, of each number the highest first (20 of them): how many there are" */
    private static void feedHighestFirst() {
        LitWindows x = new LitWindows();
        check.due("point a all;point b ", x.feed(0x706f696e, 0x74206120, 0x616c6c3b, 0x706f696e, 0x74206220), 20);
        check.due("behind those", x.feed(0x616e793b, 0x66726f6d, 0x20622074, 0x6f206120, 0x696e2037), 40);
        check.due("behind those", x.feed(0x3b202020, 0x20202020, 0x20202020, 0x20202020, 0x20202020), 60);
        check.due("fault", x.fault(), -1);
        check.due("plant", x.plant(), 2);
        check.due("the arc of the text", x.fails(2, 0), 7);
        for (int place = 0; place < 20; place++) {
            int[] w = {0x20202020, 0x20202020, 0x20202020, 0x20202020, 0x20202020};
            w[place / 4] = w[place / 4] & ~(255 << 24 - place % 4 * 8) | 0x80 + place << 24 - place % 4 * 8;
            LitWindows y = new LitWindows();
            check.due("feed", y.feed(w[0], w[1], w[2], w[3], w[4]), 20);
            check.due("the only byte that is no blank is at " + place, y.fault(), place);
        }
    }

    /** "NONE if there would be more than 600." */
    private static void feedAtMost600() {
        for (int cut = 0; cut <= 20; cut++) {
            LitWindows x = new LitWindows();
            for (int i = 1; i <= 30; i++) {
                check.due("feed " + i, x.feed(0x20202020, 0x20202020, 0x20202020, 0x20202020, 0x20202020), 20 * i);
            }
            x.end(600 - cut);
            check.due("20 bytes behind " + (600 - cut), x.feed(0x3b202020, 0, 0, 0, 0), cut == 20 ? 600 : -1);
            check.due("bytes then", x.count(7), cut == 20 ? 600 : 600 - cut);
            check.due("the bytes that stood", x.fault(), cut == 20 ? 580 : 600 - cut);
        }
    }

    /** "The text has its first n bytes alone: true; false if it has not so many, or n is below 0." */
    private static void endFirstBytesAlone() {
        int[] lengths = {0, 20, 600};
        for (int length : lengths) {
            LitWindows x = new LitWindows();
            Check.write(x, " ".repeat(length));
            int[] refused = {-1, Integer.MIN_VALUE, length + 1, length + 20, 601, Integer.MAX_VALUE};
            for (int n : refused) {
                check.due("end(" + n + ") of " + length, x.end(n), false);
                check.due("bytes then", x.count(7), length);
            }
            check.due("end of all", x.end(length), true);
            check.due("bytes then", x.count(7), length);
            if (length > 0) {
                check.due("end of all but one", x.end(length - 1), true);
                check.due("bytes then", x.count(7), length - 1);
                check.due("what was cut doesn't come again", x.end(length), false);
                check.due("end(1)", x.end(1), true);
            }
            check.due("end(0)", x.end(0), true);
            check.due("bytes then", x.count(7), 0);
        }
        LitWindows x = new LitWindows();
        Check.write(x, "point a any;zz");
        check.due("fault ahead of the cut", x.fault(), 12);
        x.end(12);
        check.due("fault behind the cut", x.fault(), -1);
        x.end(11);
        check.due("cut too early", x.fault(), 11);
        check.due("bytes come behind the first 11", x.feed(0x3b202020, 0x20202020, 0x20202020, 0x20202020, 0x20202020), 31);
        check.due("what was cut is gone", x.fault(), -1);
    }

    private static boolean isLetter(int b) {
        return b >= 97 && b <= 122;
    }

    private static boolean isDigit(int b) {
        return b >= 48 && b <= 57;
    }

    private static boolean isBetween(int b) {
        return b == 32 || b == 10;
    }

    /** "words of small letters": of all bytes only these go on a name; only blanks and line ends may stand behind it. */
    private static void everyByteInAName() {
        for (int b = 0; b < 256; b++) {
            int due = isLetter(b) || isBetween(b) ? -1 : 7;
            check.due("byte " + b + " in a name", Check.faultOf("point a" + (char) b + " any;"), due);
        }
    }

    /** "NAMES N are words": no other byte begins one */
    private static void everyByteAsAName() {
        for (int b = 0; b < 256; b++) {
            int due = isLetter(b) ? -1 : isBetween(b) ? 8 : 6;
            check.due("byte " + b + " as a name", Check.faultOf("point " + (char) b + " any;"), due);
        }
    }

    /** "numbers of digits": each digit goes on with the number 1, all else ends it. */
    private static void everyByteInANumber() {
        for (int b = 0; b < 256; b++) {
            int due = isDigit(b) || isBetween(b) ? -1 : b == ';' ? 23 : 22;
            LitWindows x = new LitWindows();
            Check.write(x, A + "window a 1" + (char) b + ";");
            check.due("byte " + b + " in a number", x.fault(), due);
            if (isDigit(b)) {
                x.plant();
                check.due("the lag 1" + (char) b, x.window(0, 1), 10 + b - 48);
            }
        }
    }

    /** "and ; with any blanks (32) and line ends (10) between": behind a statement nothing else is without a fault. */
    private static void everyByteBetween() {
        for (int b = 0; b < 256; b++) {
            int due = isBetween(b) ? -1 : 12;
            check.due("byte " + b + " behind", Check.faultOf(A + (char) b), due);
            check.due("byte " + b + " ahead", Check.faultOf((char) b + A), isBetween(b) ? -1 : 0);
            String text = "point" + (char) b + "a any;";
            check.due("byte " + b + " inside", Check.faultOf(text), isBetween(b) ? -1 : isLetter(b) ? 0 : 5);
        }
        fault("point a any ;", -1);
        fault("\n\n  point \n a\nany\n;\n", -1);
        fault("point\na any;from a to\na\nin 1;window  a 1;window\na\n1;", -1);
        fault("point a any;point\na any;", 18);
        fault(A + " ".repeat(588), -1);
        fault("\n".repeat(588) + A, -1);
    }

    /** "as long as can be" */
    private static void tokensAsLongAsCanBe() {
        fault("pointa any;", 0);
        fault("point aany;", 10);
        fault("point a anyy;", 8);
        fault("point a an y;", 8);
        fault("po int a any;", 0);
        fault(A + "from a to a in 6 0;", 29);
        fault(A + "from a toa in 60;", 19);
        fault(A + "from a to a in60;", -1);
        fault(A + "from a to a in 60;window a5;", -1);
        fault(A + "window a 6 0;", 24);
        fault(A + "window a 60 60of2;", -1);
        fault(A + "window a 5x;", 22);
        fault(A + "window a 5;window a 6;hide 0while 1;", -1);
        fault(A + "window a 5;window a 6;hide0while1;", -1);
        fault(A + "window a 5;window a 6;hide 0 while1not 2;", 51);
        fault("point a any;point b any;from a to b in 1;from ab to a in 1;", 46);
        fault("point a any;point ab any;point abc any;from ab to abc in 1;", -1);
    }

    /** "It is any number of, in any order" */
    private static void anyNumberInAnyOrder() {
        stands(A, 1, 0, 0, 0);
        stands("point a all;", 1, 0, 0, 0);
        stands(A + "window a 5;point b all;from a to b in 3;window b 1;hide 1 while 0;from b to a in 0;point c any;"
            + "window c 1;hide 0 while 1 not 2;from c to c in 60;", 3, 3, 3, 2);
        stands(A + "from a to a in 1;from a to a in 1;window a 1;window a 1;hide 0 while 1;hide 0 while 1;", 1, 2, 2, 2);
    }

    private static String points(int many) {
        StringBuilder s = new StringBuilder();
        for (int i = 0; i < many; i++) {
            s.append("point ").append((char) ('a' + i)).append(i % 2 == 0 ? " any;" : " all;");
        }
        return s.toString();
    }

    /** "at most 12 POINTS, numbers as they come"; "a 13th POINT .. at its first word" */
    private static void atMost12Points() {
        stands(points(11), 11, 0, 0, 0);
        stands(points(12), 12, 0, 0, 0);
        fault(points(13), 144);
        fault(points(12) + "\n\npoint", 146);
        fault(points(12) + "point 5", 144);
        fault(points(12) + "points", 144);
        fault(points(11) + "point 5", 138);
        LitWindows x = Check.of(points(12) + "from l to a in 5;window l 1;window a 2;");
        check.due("the twelfth is 11", x.window(0, 0), 11);
        check.due("the first is 0", x.window(1, 0), 0);
        check.due("the twelfth fails", x.fails(1 << 11, 11), 0);
        check.due("the first by it", x.fails(1 << 11, 0), 5);
    }

    /** "ARCS, at most 24"; "25th ARC .. at its first word" */
    private static void atMost24Arcs() {
        String arc = "from a to a in 1;";
        stands(A + arc.repeat(23), 1, 23, 0, 0);
        stands(A + arc.repeat(24), 1, 24, 0, 0);
        fault(A + arc.repeat(25), 420);
        fault(A + arc.repeat(24) + " from", 421);
        fault(A + arc.repeat(24) + "from 5", 420);
        fault(A + arc.repeat(23) + "from 5", 408);
        fault(A + arc.repeat(24) + "window a 1;from", 431);
        LitWindows x = Check.of(A + "point b all;" + "from a to b in 1;".repeat(23) + "from a to b in 60;");
        check.due("the twenty-fourth arc counts", x.fails(1, 1), 60);
        check.due("arcs", x.count(1), 24);
    }

    /** "at most 12 WINDOWS, numbers as they come"; "13th .. WINDOW .. at its first word" */
    private static void atMost12Windows() {
        String window = "window a 1;";
        stands(A + window.repeat(11), 1, 0, 11, 0);
        stands(A + window.repeat(12), 1, 0, 12, 0);
        fault(A + window.repeat(13), 144);
        fault(A + window.repeat(12) + "\nwindow", 145);
        fault(A + window.repeat(12) + "window 5", 144);
        fault(A + window.repeat(11) + "window 5", 140);
        fault(A + window.repeat(12) + "point b any;window b 1;", 156);
        LitWindows x = Check.of(A + window.repeat(11) + "window a 44;");
        check.due("the twelfth window", x.window(11, 1), 44);
        check.due("is lit", x.lit(1, 11), 44);
        check.due("a thirteenth", x.window(12, 1), -1);
    }

    /** "RULES, at most 8, numbers as they come"; "9th RULE at its first word" */
    private static void atMost8Rules() {
        String ahead = A + "window a 1;window a 1;";
        String rule = "hide 0 while 1;";
        stands(ahead + rule.repeat(7), 1, 0, 2, 7);
        stands(ahead + rule.repeat(8), 1, 0, 2, 8);
        fault(ahead + rule.repeat(9), 154);
        fault(ahead + rule.repeat(8) + " hide", 155);
        fault(ahead + rule.repeat(8) + "hide x", 154);
        fault(ahead + rule.repeat(7) + "hide x", 144);
        LitWindows x = Check.of(ahead + rule.repeat(7) + "hide 1 while 0;");
        check.due("all hide", x.board(1, 1, 1), 0);
        check.due("the eighth rests", x.rest(7, true), true);
        check.due("window 1 is shown then", x.board(1, 1, 1), 2);
        check.due("a ninth", x.rest(8, true), false);
    }

    /** All at their most in one text of at most 600 bytes. */
    private static void atMostOfAll() {
        StringBuilder s = new StringBuilder();
        for (int i = 0; i < 12; i++) {
            s.append("point ").append((char) ('a' + i)).append(" any;");
        }
        s.append("from a to b in1;".repeat(12));
        s.append("window l9;".repeat(12));
        s.append("hide1while0;".repeat(8));
        stands(s.toString(), 12, 12, 12, 8);
        fault(s + "point", 552);
        fault(s + "window", 552);
        fault(s + "hide", 552);
        fault(s + "from", 556);
    }

    /** "NAMES N are words of at most 8 letters"; "a NAME that is told already, or isn't" */
    private static void names() {
        fault("point z any;", -1);
        fault("point abcdefg any;", -1);
        fault("point abcdefgh any;", -1);
        fault("point abcdefghi any;", 6);
        fault("point " + "z".repeat(500) + " any;", 6);
        fault("point abcdefgh any;from abcdefgh to abcdefgh in 1;window abcdefgh 1;", -1);
        fault("point abcdefgh any;from abcdefghi to abcdefgh in 1;", 24);
        fault("point abcdefgh any;from abcdefg to abcdefgh in 1;", 24);
        fault("point abcdefgh any;window abcdefgi 1;", 26);
        fault("point abcdefgh any;point abcdefgh all;", 25);
        fault("point abcdefgh any;point abcdefgg all;point bbcdefgh any;", -1);
        fault(A + "point a all;", 18);
        fault(A + "point aa any;point aaa any;point aa any;", 45);
        fault(A + "point b any;point b any;", 30);
        fault(A + "point b any;point a any;", 30);
        fault("point 7 any;", 6);
        fault("point ; any;", 6);
        fault("point any;", 6);
    }

    /** "but: point any all from to in window of hide while not" */
    private static void keptWords() {
        String[] kept = {"point", "any", "all", "from", "to", "in", "window", "of", "hide", "while", "not"};
        for (String word : kept) {
            fault("point " + word + " any;", 6);
            fault(A + "from " + word + " to a in 1;", 17);
            fault(A + "from a to " + word + " in 1;", 22);
            fault(A + "window " + word + " 1;", 19);
            boolean begins = word.equals("point") || word.equals("from") || word.equals("window") || word.equals("hide");
            fault(A + word, begins ? 12 + word.length() : 12);
            fault("point " + word + "s any;point x" + word + " all;", -1);
            if (word.length() > 2) {
                fault("point " + word.substring(1) + " any;", -1);
                fault("point " + word.substring(0, word.length() - 1) + " any;", -1);
            }
        }
    }

    /** "D 0 .. 60 seconds"; "a number that can't be" */
    private static void delays() {
        int[] can = {0, 1, 9, 10, 59, 60};
        for (int d : can) {
            LitWindows x = new LitWindows();
            Check.write(x, A + "point b any;from a to b in " + d + ";");
            check.due("fault with D " + d, x.fault(), -1);
            check.due("plant with D " + d, x.plant(), 2);
            check.due("D " + d, x.fails(1, 1), d);
        }
        String[] cannot = {"61", "62", "99", "100", "600", "061", "256", "65536", "65596", "2147483647", "2147483648", "4294967295",
            "4294967296", "4294967356", "18446744073709551616", "9".repeat(300)};
        for (String d : cannot) {
            fault(A + "from a to a in " + d + ";", 27);
            fault(A + "from a to a in " + d, 27);
        }
        fault(A + "from a to a in -1;", 27);
        fault(A + "from a to a in a;", 27);
        fault(A + "from a to a in ;", 27);
        fault(A + "from a to a in 00;", -1);
        fault(A + "from a to a in 060;", -1);
    }

    /** "LAGS L 0 .. 60", of one, of two and of three */
    private static void lags() {
        String[] heads = {"window a ", "window a 7 ", "window a 7 8 "};
        String[] tails = {";", " of 1;", " of 2;"};
        for (int i = 0; i < 3; i++) {
            int place = 12 + heads[i].length();
            for (String can : new String[] {"0", "1", "59", "60", "060"}) {
                fault(A + heads[i] + can + tails[i], -1);
            }
            for (String cannot : new String[] {"61", "99", "100", "256", "4294967296", "4294967300", "9".repeat(100)}) {
                fault(A + heads[i] + cannot + tails[i], place);
            }
        }
        fault(A + "window a;", 20);
        fault(A + "window a 61 5 of 1;", 21);
        fault(A + "window a 61 61 61 of 1;", 21);
        fault(A + "window a 5 61 61 of 1;", 23);
        LitWindows x = Check.of(A + "window a 0;window a 60;window a 0 60 of 1;window a 0 60 of 2;window a 60 0 60 of 2;");
        int[] due = {0, 60, 0, 60, 60};
        for (int w = 0; w < 5; w++) {
            check.due("the lag that counts of " + w, x.window(w, 1), due[w]);
            check.due("lit by it", x.lit(1, w), due[w]);
        }
    }

    /** "K 1 .. how many LAGS" */
    private static void votes() {
        String[] heads = {"window a 7 8 of ", "window a 7 8 9 of "};
        for (int lags = 2; lags <= 3; lags++) {
            String head = A + heads[lags - 2];
            for (int k = 1; k <= lags; k++) {
                LitWindows x = Check.of(head + k + ";");
                check.due("lag by votes " + k + " of " + lags, x.window(0, 1), 6 + k);
            }
            for (String k : new String[] {"0", "00", "" + (lags + 1), "10", "4294967297", "a", "of", ";"}) {
                fault(head + k + ";", head.length());
            }
        }
        fault(A + "window a 7 of 1;", 23);
        fault(A + "window a 7 of 0;", 23);
        fault(A + "window a 7 8;", 24);
        fault(A + "window a 7 8 9;", 26);
        fault(A + "window a 7 8 9 10 of 1;", 27);
        fault(A + "window a 7 8 9 61 of 1;", 27);
        fault(A + "window a 7 8 of 1 of 1;", 30);
        fault(A + "window a 7 8 of 1 1;", 30);
    }

    /** "numbers of WINDOWS told ahead, unlike" */
    private static void ruleNumbers() {
        String three = A + "window a 1;window a 1;window a 1;";
        for (int a = 0; a < 4; a++) {
            for (int b = 0; b < 4; b++) {
                String rule = three + "hide " + a + " while " + b;
                int due = a == 3 ? 50 : b == 3 || b == a ? 58 : -1;
                fault(rule + ";", due);
                for (int c = 0; c < 4; c++) {
                    boolean can = c != 3 && c != a && c != b;
                    fault(rule + " not " + c + ";", due != -1 ? due : can ? -1 : 64);
                }
            }
        }
        String twelve = A + "window a 1;".repeat(12);
        fault(twelve + "hide 11 while 10 not 9;", -1);
        fault(twelve + "hide 0 while 11 not 10;", -1);
        fault(twelve + "hide 0 while 1 not 11;", -1);
        fault(twelve + "hide 12 while 0;", 149);
        fault(twelve + "hide 0 while 12;", 157);
        fault(twelve + "hide 0 while 1 not 12;", 163);
        fault(twelve + "hide 4294967296 while 1;", 149);
        fault(twelve + "hide 0 while 4294967297;", 157);
        fault(twelve + "hide 01 while 1;", 158);
        fault(twelve + "hide 1 while 2 not 002;", 163);
        fault(A + "hide 0 while 1;", 17);
        fault(A + "window a 1;hide 0 while 1;", 36);
        fault(A + "window a 1;hide 0 while 1;window a 1;", 36);
        fault("hide 0 while 1;", 5);
        fault(three + "hide 0;", 51);
        fault(three + "hide 0 while ;", 58);
        fault(three + "hide 0 while 1 not;", 63);
        fault(three + "hide 0 while 1 2;", 60);
        fault(three + "hide 0 while 1 not 2 not 2;", 66);
    }

    /** "of POINTS told ahead"; "at a POINT told ahead" */
    private static void toldAhead() {
        fault("from a to a in 1;" + A, 5);
        fault("window a 1;" + A, 7);
        fault(A + "from a to b in 1;point b any;", 22);
        fault(A + "from b to a in 1;point b any;", 17);
        fault(A + "window b 1;point b any;", 19);
        fault(A + "point b any;from a to b in 1;window b 1;", -1);
    }

    /** "the first byte of the first TOKEN that can't stand there .. or of a byte that begins no TOKEN, if that is ahead" */
    private static void firstOfFaults() {
        fault("A", 0);
        fault("a", 0);
        fault("oops A", 0);
        fault(" A oops", 1);
        fault(A + "A point a any;", 12);
        fault(A + "point a any; A", 18);
        fault(A + "point b any;A", 24);
        fault("point A", 6);
        fault("point a A", 8);
        fault("point aA any;", 7);
        fault("point abcdefghiA any;", 6);
        fault("point abcdefghA any;", 14);
        fault("poinT a any;", 0);
        fault("point-a any;", 5);
        fault(A + "window a 61A;", 21);
        fault(A + "window a 6A1;", 22);
        fault(A + ";", 12);
        fault(A + "5", 12);
    }

    private static final String[] SOME = {"point", "any", "all", "from", "to", "in", "window", "of", "hide", "while", "not", ";",
        "0", "1", "2", "3", "60", "61", "a", "b", "zz", "eightlet", "ninelette"};

    /** For each place of a statement what may stand there; then every other token of SOME is a fault there. */
    private static void whatMayStandWhere() {
        String ahead = "point a any;point b all;window a 1;window b 1;window a 1;";
        tryEach(ahead, "point from window hide");
        tryEach(ahead + "point ", "zz eightlet");
        tryEach(ahead + "point c ", "any all");
        tryEach(ahead + "point c any ", ";");
        tryEach(ahead + "from ", "a b");
        tryEach(ahead + "from a ", "to");
        tryEach(ahead + "from a to ", "a b");
        tryEach(ahead + "from a to b ", "in");
        tryEach(ahead + "from a to b in ", "0 1 2 3 60");
        tryEach(ahead + "from a to b in 0 ", ";");
        tryEach(ahead + "window ", "a b");
        tryEach(ahead + "window b ", "0 1 2 3 60");
        tryEach(ahead + "window b 5 ", "; 0 1 2 3 60");
        tryEach(ahead + "window b 5 6 ", "of 0 1 2 3 60");
        tryEach(ahead + "window b 5 6 of ", "1 2");
        tryEach(ahead + "window b 5 6 of 2 ", ";");
        tryEach(ahead + "window b 5 6 7 ", "of");
        tryEach(ahead + "window b 5 6 7 of ", "1 2 3");
        tryEach(ahead + "window b 5 6 7 of 3 ", ";");
        tryEach(ahead + "hide ", "0 1 2");
        tryEach(ahead + "hide 0 ", "while");
        tryEach(ahead + "hide 0 while ", "1 2");
        tryEach(ahead + "hide 1 while ", "0 2");
        tryEach(ahead + "hide 2 while ", "0 1");
        tryEach(ahead + "hide 0 while 1 ", "; not");
        tryEach(ahead + "hide 0 while 1 not ", "2");
        tryEach(ahead + "hide 2 while 0 not ", "1");
        tryEach(ahead + "hide 1 while 2 not ", "0");
        tryEach(ahead + "hide 1 while 2 not 0 ", ";");
    }

    /** Whole statements follow, so that going on at the token that can't stand there would find no fault in it. */
    private static void tryEach(String said, String may) {
        String behind = " c any;from a to b in 5;";
        String allowed = " " + may + " ";
        for (String token : SOME) {
            int got = Check.faultOf(said + token);
            boolean can = allowed.contains(" " + token + " ");
            boolean over = token.equals(";");
            check.due("fault of [" + said + token + "]", got, !can ? said.length() : over ? -1 : said.length() + token.length());
            if (!can) {
                fault(said + token + behind, said.length());
                fault(said + token + ";" + A, said.length());
            }
        }
        fault(said + "#", said.length());
    }

    /** "the length, if it ends too early": behind each token of a statement but its last */
    private static void endsTooEarly() {
        String ahead = A + "window a 1;window a 1;window a 1;";
        String[] whole = {"point b any;", "point b all ;", "from a to a in 1;", "window a 1;", "window a 1 2 of 1;", "window a 1 2 3 of 1;",
            "hide 0 while 1;", "hide 0 while 1 not 2;"};
        for (String statement : whole) {
            String spaced = statement.replace(";", " ;");
            String[] tokens = spaced.trim().split(" +");
            String said = ahead;
            for (int i = 0; i < tokens.length; i++) {
                said = said + tokens[i];
                boolean over = i == tokens.length - 1;
                fault(said, over ? -1 : said.length());
                said = said + " ";
                fault(said, over ? -1 : said.length());
                fault(said + "\n\n", over ? -1 : said.length() + 2);
            }
        }
    }

    /** "or has no POINT" */
    private static void noPoint() {
        fault("", 0);
        fault(" ", 1);
        fault("\n", 1);
        fault(" \n \n", 4);
        fault(" ".repeat(599), 599);
        fault(" ".repeat(600), 600);
    }

    /** "A PLANT is a text of at most 600 bytes": the last byte counts as any. */
    private static void longTexts() {
        stands(" ".repeat(588) + A, 1, 0, 0, 0);
        stands(A + " ".repeat(588), 1, 0, 0, 0);
        fault(A + " ".repeat(587) + ";", 599);
        fault(A + " ".repeat(587) + "A", 599);
        fault(A + " ".repeat(583) + "point", 600);
        fault(A + " ".repeat(577) + "point b any", 600);
        fault(" ".repeat(589) + "point a any", 600);
        stands(A + " ".repeat(576) + "point b any;", 2, 0, 0, 0);
        stands(A + "from a to a in " + "0".repeat(570) + "60;", 1, 1, 0, 0);
        fault(A + "from a to a in " + "0".repeat(570) + "61;", 27);
        LitWindows x = new LitWindows();
        Check.write(x, " ".repeat(588) + A);
        check.due("bytes", x.count(7), 600);
        check.due("fault", x.fault(), -1);
        check.due("end(599)", x.end(599), true);
        check.due("ends too early", x.fault(), 599);
        check.due("no plant", x.plant(), -1);
        check.due("bytes", x.count(7), 599);
    }

    /** "A PLANT without one takes the place of the one ahead: no WINDOW STICKS, no RULE RESTS, WINDOW w is at PLACE w; the LOG is empty." */
    private static void plantTakesThePlace() {
        String full = points(12) + "window a 1;".repeat(12) + "hide 0 while 1;".repeat(8) + "from a to b in 9;".repeat(3);
        LitWindows x = Check.of(full);
        for (int w = 0; w < 12; w++) {
            x.stick(w, 1 + w % 2);
            x.log(w, 10 * w);
        }
        for (int i = 0; i < 6; i++) {
            x.change(i, 11 - i);
        }
        for (int r = 0; r < 8; r++) {
            x.rest(r, true);
        }
        int[] before = {12, 3, 12, 8, 12, 8, 12, 0};
        for (int what = 0; what < 8; what++) {
            check.due("ahead: count(" + what + ")", x.count(what), before[what]);
        }
        Check.write(x, full);
        check.due("the same text again", x.plant(), 12);
        int[] after = {12, 3, 12, 8, 0, 0, 0, 0};
        for (int what = 0; what < 8; what++) {
            check.due("then: count(" + what + ")", x.count(what), after[what]);
        }
        for (int w = 0; w < 12; w++) {
            check.due("doesn't stick", x.window(w, 2), 0);
            check.due("is at its place", x.window(w, 3), w);
        }
        check.due("the log begins at 0 again", x.log(0, 0), 1);
        Check.write(x, "point z all;");
        check.due("a lesser one", x.plant(), 1);
        int[] lesser = {1, 0, 0, 0, 0, 0, 0, 0};
        for (int what = 0; what < 8; what++) {
            check.due("lesser: count(" + what + ")", x.count(what), lesser[what]);
        }
        check.due("no window of the one ahead", x.window(0, 0), -1);
        check.due("no point of the one ahead", x.fails(1, 1), -1);
        check.due("no heap of the one ahead", x.fails(2, 0), -1);
        check.due("no rule of the one ahead", x.rest(0, true), false);
        check.due("no place of the one ahead", x.change(0, 1), false);
        Check.write(x, full);
        check.due("and the great one again", x.plant(), 12);
        for (int w = 0; w < 12; w++) {
            check.due("doesn't stick", x.window(w, 2), 0);
            check.due("is at its place", x.window(w, 3), w);
        }
        check.due("an arc of it", x.fails(1, 1), 9);
        Check.write(x, points(2));
        x.plant();
        check.due("an arc of the one ahead is gone", x.fails(1, 1), -1);
    }

    /** "NONE with a FAULT (it stays)" */
    private static void plantWithFaultStays() {
        LitWindows x = Check.of(A + "point b any;from a to b in 5;window a 1;window b 1;hide 0 while 1;");
        String[] faults = {"", " ", "point", "point c any;;", A + "window a 61;", "point x any;point y any;point z any;oops"};
        for (String text : faults) {
            Check.write(x, text);
            check.due("plant of [" + text + "]", x.plant(), -1);
            check.due("and again", x.plant(), -1);
            check.due("its text stays", x.count(7), text.length());
            int[] due = {2, 1, 2, 1};
            for (int what = 0; what < 4; what++) {
                check.due("the plant ahead stays: " + what, x.count(what), due[what]);
            }
            check.due("the plant ahead stays: fails", x.fails(1, 1), 5);
            check.due("the plant ahead stays: shown", x.board(1, 6, 1), 2);
        }
        x.end(x.count(7) - 4);
        check.due("the text without its fault", x.fault(), -1);
        check.due("the plant of it", x.plant(), 3);
        check.due("the text is empty then", x.count(7), 0);
        check.due("no text no plant", x.plant(), -1);
        check.due("the plant stays", x.count(0), 3);
    }

    /** "NONE for others." */
    private static void counts() {
        LitWindows x = Check.of(A + "window a 1;");
        int[] others = {-1, -2, 8, 9, 100, Integer.MIN_VALUE, Integer.MAX_VALUE};
        for (int what : others) {
            check.due("count(" + what + ")", x.count(what), -1);
        }
        for (int i = 1; i <= 60; i++) {
            x.log(0, i);
            check.due("rows", x.count(4), i);
        }
        x.log(0, 60);
        check.due("rows at most", x.count(4), 60);
        x.stick(0, 1);
        check.due("sticks lit", x.count(6), 1);
        x.stick(0, 2);
        check.due("sticks dark", x.count(6), 1);
        x.stick(0, 0);
        check.due("sticks not", x.count(6), 0);
    }
}
