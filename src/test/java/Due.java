/** What the tests of the project share: counting wrong answers, and telling a text as bytes. */
final class Due {
    private static int wrong = 0;
    private static int asked = 0;
    private static String part = "";

    private Due() {
    }

    /** What stands ahead of each wrong answer that is printed from now on. */
    static void part(String name) {
        part = name;
    }

    static int askedSoFar() {
        return asked;
    }

    static void due(String call, long got, long want) {
        asked++;
        if (got != want) {
            wrong++;
            if (wrong <= 50) {
                System.out.println(part + call + " answered " + got + ", due is " + want);
            }
        }
    }

    static void due(String call, boolean got, boolean want) {
        due(call, got ? 1L : 0L, want ? 1L : 0L);
    }

    /** Puts a text on the tape, twenty bytes a call. */
    static void write(CardDrawer x, String text) {
        int[] row = new int[5];
        for (int at = 0; at < text.length(); at += 20) {
            for (int i = 0; i < 20; i++) {
                int sign = at + i < text.length() ? text.charAt(at + i) : ' ';
                row[i / 4] = row[i / 4] << 8 | sign & 255;
            }
            x.feed(row[0], row[1], row[2], row[3], row[4]);
        }
        x.end(text.length());
    }

    static int tell(CardDrawer x, int k, String text) {
        write(x, text);
        return x.text(k);
    }

    /** The text is refused with this fault at this place. */
    static void refused(CardDrawer x, int k, String text, int fault, int place) {
        due("text(" + k + ") of \"" + text + "\"", tell(x, k, text), -1);
        due("fault(0) of \"" + text + "\"", x.fault(0), fault);
        due("fault(1) of \"" + text + "\"", x.fault(1), place);
    }

    /** The text is taken with so many lines. */
    static void taken(CardDrawer x, int k, String text, int lines) {
        due("text(" + k + ") of \"" + text + "\"", tell(x, k, text), lines);
        due("fault(0) of \"" + text + "\"", x.fault(0), 0);
        due("fault(1) of \"" + text + "\"", x.fault(1), -1);
    }

    static void close(String name) {
        System.out.println(name + ": " + asked + " answers, " + wrong + " not as due");
        if (wrong != 0 || asked == 0) {
            System.exit(1);
        }
    }
}
