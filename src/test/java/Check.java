/** Counts the answers that are not as due, and helps to feed texts. */
final class Check {
    private final String name;
    private int wrong = 0;
    private int asked = 0;

    Check(String name) {
        this.name = name;
    }

    void due(String call, long got, long want) {
        asked++;
        if (got != want) {
            wrong++;
            System.out.println(name + ": " + call + " answered " + got + ", due is " + want);
        }
    }

    void due(String call, boolean got, boolean want) {
        due(call, got ? 1 : 0, want ? 1 : 0);
    }

    void finish() {
        System.out.println(name + ": " + asked + " answers, " + wrong + " not as due");
        if (wrong != 0) {
            System.exit(1);
        }
    }

    /** Puts a text in place of the one that stands: five numbers of four bytes at a time, then the length. */
    static void write(LitWindows x, String text) {
        x.end(0);
        for (int i = 0; i < text.length(); i += 20) {
            x.feed(word(text, i), word(text, i + 4), word(text, i + 8), word(text, i + 12), word(text, i + 16));
        }
        x.end(text.length());
    }

    static int word(String text, int place) {
        int word = 0;
        for (int i = 0; i < 4; i++) {
            int sign = place + i < text.length() ? text.charAt(place + i) : ' ';
            word = word << 8 | sign & 255;
        }
        return word;
    }

    static LitWindows of(String text) {
        LitWindows x = new LitWindows();
        write(x, text);
        x.plant();
        return x;
    }

    static int faultOf(String text) {
        LitWindows x = new LitWindows();
        write(x, text);
        return x.fault();
    }

    static String repeat(String part, int times) {
        return part.repeat(times);
    }
}
