import java.util.Random;

/** Texts that are mostly good, and some with a sign too much, too few, or another one. */
final class RandomTexts {
    private static final String[] KNOWN = {"person", "firm", "trade", "year", "bent", "worn", "rung", "age", "now"};
    private static final String[] STRAY = {
        ";", "+", "-", "*", "/", "(", ")", "<", "=", ">", ".", ",", "not", "or", "and", "when", "holds", "dust",
        "worth", "by", "from", "to", "in", "throw", "ring", "bend", "find", "person", "0", "7", "99", "100", "9999",
        "12345", "X", "Holds", "holdsdust", "\n", "\t", "\u00e9", "\u00ff", "\u0000"};
    private final Random random;

    RandomTexts(Random random) {
        this.random = random;
    }

    private int n(int many) {
        return random.nextInt(many);
    }

    private String gap() {
        int k = n(6);
        return k == 0 ? "" : k == 1 ? "  " : k == 2 ? "\n" : " ";
    }

    private String num(int many) {
        int v = n(many);
        return n(9) == 0 && v < 100 ? "0" + v : "" + v;
    }

    private String unit() {
        if (n(3) == 0) {
            return num(n(3) == 0 ? 10000 : 120);
        }
        return KNOWN[n(KNOWN.length)];
    }

    private String sum() {
        StringBuilder s = new StringBuilder(unit());
        for (int i = n(n(4) == 0 ? 6 : 3); i > 0; i--) {
            int k = n(4);
            s.append(n(3) == 0 ? " " : "").append("+-*/".charAt(k)).append(k == 3 ? "" + (1 + n(30)) : unit());
        }
        return s.toString();
    }

    private String condition(int depth) {
        if (depth > 0 && n(3) == 0) {
            return n(2) == 0 ? "not " + condition(depth - 1) : "(" + either(depth - 1) + ")";
        }
        return sum() + "<=>".charAt(n(3)) + sum();
    }

    private String either(int depth) {
        StringBuilder s = new StringBuilder(condition(depth));
        for (int i = n(3); i > 0; i--) {
            s.append(n(2) == 0 ? " and " : " or ").append(condition(depth));
        }
        return s.toString();
    }

    private String line(int k, int cards) {
        switch (k) {
            case 0:
                String when = n(2) == 0 ? "" : " when " + either(n(10) == 0 ? 12 : 3);
                String[] words = {"holds", "dust", "worth"};
                return words[n(3)] + " " + (n(3) == 0 ? num(900) : sum()) + when + gap() + ";" + gap();
            case 1:
                return "person " + num(n(20) == 0 ? 13 : 12) + gap() + "by" + gap() + num(12) + ";" + gap();
            case 2:
                int from = n(60);
                return "firm " + num(8) + " from " + from + gap() + "to " + (from + n(50) - n(10)) + ";" + gap();
            default:
                String year = "in " + num(40);
                switch (n(4)) {
                    case 0: return year + " throw " + (1 + n(3)) + ";";
                    case 1: return year + gap() + "ring " + num(12) + ";" + gap();
                    case 2: return year + " bend " + num(Math.max(1, cards)) + gap() + ";";
                    default: return year + " find " + num(Math.max(1, cards)) + ";" + gap();
                }
        }
    }

    private String spoil(String text) {
        int at = n(text.length() + 1);
        int to = Math.min(text.length(), at + n(4));
        return text.substring(0, at) + (n(3) == 0 ? "" : STRAY[n(STRAY.length)]) + text.substring(to);
    }

    String next(int k, int cards) {
        StringBuilder s = new StringBuilder();
        for (int i = n(n(4) == 0 ? 19 : 7); i > 0; i--) {
            s.append(line(k & 3, cards));
        }
        String text = s.toString();
        for (int i = n(3) == 0 ? 1 + n(2) : 0; i > 0; i--) {
            text = spoil(text);
        }
        return text.length() > 400 ? text.substring(0, n(2) == 0 ? 400 : text.lastIndexOf(';', 399) + 1) : text;
    }
}
