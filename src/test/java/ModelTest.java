import java.util.Random;

/** Random runs of calls, each answered by the class and by the model. */
public final class ModelTest {
    private static final int RUNS = 600;

    private final Random random;
    private final RandomTexts texts;
    private final CardDrawer x = new CardDrawer();
    private final Model m = new Model();
    private final int run;
    private int calls;

    private ModelTest(int run) {
        this.run = run;
        this.random = new Random(run);
        this.texts = new RandomTexts(random);
    }

    public static void main(String[] args) {
        int first = args.length > 0 ? Integer.parseInt(args[0]) : 0;
        int runs = args.length > 1 ? Integer.parseInt(args[1]) : RUNS;
        for (int run = first; run < first + runs; run++) {
            new ModelTest(run).play();
        }
        Due.close("ModelTest");
    }

    private int n(int many) {
        return random.nextInt(many);
    }

    /** Mostly within 0 .. many - 1, seldom beyond. */
    private int near(int many) {
        int k = n(40);
        if (k == 0) {
            return new int[] {Integer.MIN_VALUE, Integer.MAX_VALUE, -1, -2, many, many + 1, 1 << 20}[n(7)];
        }
        return n(many);
    }

    private void same(String call, int got, int want) {
        calls++;
        Due.due("run " + run + ", call " + calls + ": " + call, got, want);
    }

    private void same(String call, boolean got, boolean want) {
        same(call, got ? 1 : 0, want ? 1 : 0);
    }

    private void play() {
        int cards = n(15);
        boolean eager = n(2) == 0;
        for (int i = 0; i < cards; i++) {
            putCard();
        }
        if (n(3) != 0) {
            tellText(1);
        }
        while (calls < 470) {
            if (eager && n(3) == 0) {
                deed(n(7));
            } else {
                any(n(40));
            }
        }
        for (int what = -1; what < 17; what++) {
            same("look(" + what + ")", x.look(what), m.look(what));
        }
        for (int card = 0; card < 2; card++) {
            for (int what = -1; what < 12; what++) {
                same("of(" + card + ", " + what + ")", x.of(card, what), m.of(card, what));
            }
        }
    }

    private void putCard() {
        int p = near(n(3) == 0 ? 4 : 12);
        int f = near(n(2) == 0 ? 3 : 8);
        int t = near(n(2) == 0 ? 2 : 6);
        int y = near(n(2) == 0 ? 6 : 100);
        same("card(" + p + ", " + f + ", " + t + ", " + y + ")", x.card(p, f, t, y), m.card(p, f, t, y));
    }

    private void tellText(int k) {
        String text = texts.next(k, m.w.cards.size());
        for (int at = 0; at < text.length(); at += 20) {
            int[] row = new int[5];
            for (int i = 0; i < 20; i++) {
                int sign = at + i < text.length() ? text.charAt(at + i) : ' ';
                row[i / 4] = row[i / 4] << 8 | sign & 255;
            }
            same("feed", x.feed(row[0], row[1], row[2], row[3], row[4]), m.feed(row[0], row[1], row[2], row[3], row[4]));
        }
        if (n(12) != 0) {
            same("end(" + text.length() + ")", x.end(text.length()), m.end(text.length()));
        }
        same("text(" + k + ") of \"" + m.tape + "\"", x.text(k), m.text(k));
        same("fault(0) of \"" + text + "\"", x.fault(0), m.fault(0));
        same("fault(1) of \"" + text + "\"", x.fault(1), m.fault(1));
    }

    private void deed(int kind) {
        int a = near(15);
        switch (kind) {
            case 0: same("ring(" + a + ")", x.ring(a), m.ring(a)); break;
            case 1: a = 1 + near(3); same("toss(" + a + ")", x.toss(a), m.toss(a)); break;
            case 2: same("does(" + a + ", false)", x.does(a, false), m.does(a, false)); break;
            case 3: same("does(" + a + ", true)", x.does(a, true), m.does(a, true)); break;
            case 4: a = 1 + near(n(4) == 0 ? 30 : 3); same("years(" + a + ")", x.years(a), m.years(a)); break;
            case 5: same("undo()", x.undo(), m.undo()); break;
            default: a = n(60); same("set(0, 0, " + a + ")", x.set(0, 0, a), m.set(0, 0, a)); break;
        }
    }

    private void any(int kind) {
        int a = near(15);
        int b = near(12);
        int w = near(4);
        int w2 = near(2);
        boolean yes = n(2) == 0;
        switch (kind) {
            case 0: same("state(" + a + ")", x.state(a * 77777), m.state(a * 77777)); break;
            case 1: putCard(); break;
            case 2: int v = near(100); same("set(" + w + ", " + a + ", " + v + ")", x.set(w, a, v), m.set(w, a, v)); break;
            case 3: case 4: case 5: case 6: case 7: case 8: deed(n(7)); break;
            case 9: case 10: tellText(n(30) == 0 ? near(5) : n(4)); break;
            case 11: same("end(" + a + ")", x.end(a), m.end(a)); break;
            case 12: same("feed", x.feed(a, b, w, w2, kind), m.feed(a, b, w, w2, kind)); break;
            case 13: w = near(12); same("of(" + a + ", " + w + ")", x.of(a, w), m.of(a, w)); break;
            case 14: same("met(" + b + ")", x.met(b), m.met(b)); break;
            case 15: a = near(8); same("called(" + a + ", " + w2 + ")", x.called(a, w2), m.called(a, w2)); break;
            case 16: a = near(150); same("book(" + a + ", " + w + ")", x.book(a, w), m.book(a, w)); break;
            case 17: a = near(62); same("goes(" + a + ", " + w + ")", x.goes(a, w), m.goes(a, w)); break;
            case 18: case 19: order(a, near(15)); break;
            case 20: same("dated(" + a + ", " + w2 + ")", x.dated(a, w2), m.dated(a, w2)); break;
            case 21: a = near(6); w = near(3); same("hands(" + a + ", " + w + ")", x.hands(a, w), m.hands(a, w)); break;
            case 22: same("led(" + b + ")", x.led(b), m.led(b)); break;
            case 23: same("root(" + b + ")", x.root(b), m.root(b)); break;
            case 24: same("tells(" + w2 + ")", x.tells(w2), m.tells(w2)); break;
            case 25: a = near(4096) & near(4096); same("hears(" + a + ", " + b + ")", x.hears(a, b), m.hears(a, b)); break;
            case 26: case 27: question(near(3), b); break;
            case 28: same("keeps(" + a + ", " + w2 + ")", x.keeps(a, w2), m.keeps(a, w2)); break;
            case 29: same("sorted(" + w2 + ")", x.sorted(w2), m.sorted(w2)); break;
            case 30: same("apart()", x.apart(), m.apart()); break;
            case 31: same("seconds()", x.seconds(), m.seconds()); break;
            case 32: same("beside(" + a + ", " + w2 + ")", x.beside(a, w2), m.beside(a, w2)); break;
            case 33: a = near(yes ? 2 : 8); noted(w, a, yes); break;
            case 34: same("whose(" + w2 + ")", x.whose(w2), m.whose(w2)); break;
            case 35: same("uses(" + w2 + ")", x.uses(w2), m.uses(w2)); break;
            case 36: same("game(" + w2 + ")", x.game(w2), m.game(w2)); break;
            case 37: boolean taken = n(3) == 0; same("image(" + taken + ")", x.image(taken), m.image(taken)); break;
            case 38: a = near(16); same("look(" + a + ")", x.look(a), m.look(a)); break;
            default: same("fault(" + w2 + ")", x.fault(w2), m.fault(w2)); break;
        }
    }

    private void order(int a, int b) {
        int first = n(25) == 0 ? -1 : a;
        same("ahead(" + first + ", " + b + ")", x.ahead(first, b), m.ahead(first, b));
    }

    private void question(int what, int v) {
        same("asks(" + what + ", " + v + ")", x.asks(what, v), m.asks(what, v));
    }

    private void noted(int what, int v, boolean is) {
        int w = n(6) == 0 ? -1 : what;
        same("note(" + w + ", " + v + ", " + is + ")", x.note(w, v, is), m.note(w, v, is));
    }
}
