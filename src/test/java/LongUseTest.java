/** "An object is used for at most 512 calls after it has been made": the last of them is answered as the first would be. */
public final class LongUseTest {
    private static final Check check = new Check("LongUseTest");
    private static final int MOST = 512;
    private static int left;

    public static void main(String[] args) {
        dearestQuestions();
        textsAgainAndAgain();
        rowsAgainAndAgain();
        changesAgainAndAgain();
        plantsAgainAndAgain();
        check.finish();
    }

    private static String full() {
        StringBuilder s = new StringBuilder();
        for (int i = 0; i < 12; i++) {
            s.append("point ").append((char) ('a' + i)).append(i % 4 == 3 ? " all;" : " any;");
        }
        for (int i = 0; i < 10; i++) {
            s.append("from ").append((char) ('a' + i)).append(" to ").append((char) ('a' + i + 1)).append(" in").append(3 * i).append(';');
        }
        for (int i = 0; i < 12; i++) {
            s.append("window ").append((char) ('a' + i)).append(5 * i).append(';');
        }
        for (int i = 0; i < 8; i++) {
            s.append("hide").append(i).append("while").append(i + 1).append(';');
        }
        return s.toString();
    }

    /** The object that a text of so many bytes makes, with the calls that are left to it. */
    private static LitWindows made(String text) {
        LitWindows x = Check.of(text);
        left = MOST - 3 - (text.length() + 19) / 20;
        return x;
    }

    private static int ask(LitWindows x, int kind, int n) {
        left--;
        switch (kind) {
            case 0: return x.explain(n % 8);
            case 1: return x.altered(n % 12, 83 * n % 1000);
            case 2: return x.harm(n % 3);
            case 3: return x.wall(1 + n % 30, n % 4);
            case 4: return x.told(n % 12, 1 + n % 30);
            case 5: return x.horns(83 * n % 4096, 1 + n % 60);
            case 6: return x.first(83 * n % 4096, n % 2);
            default: return x.board(83 * n % 4096, 83 * n % 1000, n % 2);
        }
    }

    private static void dearestQuestions() {
        for (int kind = 0; kind < 8; kind++) {
            LitWindows x = made(full());
            for (int w = 0; w < 12; w++) {
                x.log(w, 10 * w);
                left--;
            }
            for (int n = 0; left > 0; n++) {
                int got = ask(x, kind, n);
                if (left < 60) {
                    int keep = left;
                    LitWindows y = made(full());
                    for (int w = 0; w < 12; w++) {
                        y.log(w, 10 * w);
                    }
                    check.due("question " + kind + " with " + n, got, ask(y, kind, n));
                    left = keep;
                }
            }
        }
    }

    private static void textsAgainAndAgain() {
        LitWindows x = new LitWindows();
        for (int i = 1; i < MOST; i += 2) {
            check.due("call " + i, x.feed(0x706f696e, 0x74206120, 0x616e793b, 0x20202020, 0x20202020), 20);
            check.due("call " + (i + 1), x.end(0), true);
        }
        LitWindows y = new LitWindows();
        for (int i = 1; i <= MOST; i++) {
            check.due("call " + i, y.feed(0x706f696e, 0x74206120, 0x616e793b, 0x20202020, 0x20202020), i <= 30 ? 20 * i : -1);
        }
    }

    private static void rowsAgainAndAgain() {
        LitWindows x = made("point a any;window a 0;");
        for (int n = 0; left > 1; n++) {
            boolean over = n % 62 == 61;
            check.due("row " + n, over ? x.erase() : x.log(0, 16 * (n % 62)), over ? 60 : n % 62 < 60 ? n % 62 + 1 : -1);
            left--;
        }
        check.due("the last call", x.count(4) >= 0, true);
    }

    private static void changesAgainAndAgain() {
        LitWindows x = made(full());
        for (int n = 0; left > 12; n++) {
            check.due("change " + n, x.change(n % 11, n % 11 + 1), true);
            left--;
        }
        int places = 0;
        for (int w = 0; w < 12; w++) {
            places |= 1 << x.window(w, 3);
        }
        check.due("each window is at a place of its own", places, 4095);
        LitWindows y = made(full());
        for (int n = 0; left > 1; n++) {
            check.due("rest " + n, y.rest(n % 8, n / 8 % 2 == 0), true);
            left--;
        }
        LitWindows z = made(full());
        for (int n = 0; left > 1; n++) {
            check.due("stick " + n, z.stick(n % 12, n % 3), true);
            left--;
        }
        check.due("those that stick", z.count(6), 8);
    }

    private static void plantsAgainAndAgain() {
        LitWindows x = new LitWindows();
        for (int i = 0; i + 4 <= MOST; i += 4) {
            boolean any = i % 8 == 0;
            check.due("feed", x.feed(0x706f696e, 0x74206120, any ? 0x616e793b : 0x616c6c3b, 0x66726f6d, 0x20202020), 20);
            check.due("plant with a fault", x.plant(), -1);
            x.end(12);
            check.due("plant", x.plant(), 1);
        }
    }
}
