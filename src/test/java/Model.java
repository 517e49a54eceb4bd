import java.util.ArrayDeque;
import java.util.ArrayList;
import java.util.HashMap;
import java.util.List;
import java.util.Map;

/**
 * The document once more, in the most roundabout way: texts are read anew at each question, sets are
 * all tried one by one, the game is played to its end, and all that was is kept as whole copies.
 */
final class Model {
    static final int NONE = -1;

    static final class Card {
        int person, firm, trade, year, bent, worn, rung;
        boolean kept = true;

        Card copy() {
            Card c = new Card();
            c.person = person; c.firm = firm; c.trade = trade; c.year = year;
            c.bent = bent; c.worn = worn; c.rung = rung; c.kept = kept;
            return c;
        }

        int get(String name, int now) {
            switch (name) {
                case "person": return person;
                case "firm": return firm;
                case "trade": return trade;
                case "year": return year;
                case "bent": return bent;
                case "worn": return worn;
                case "rung": return rung;
                case "age": return Math.max(0, now - year);
                case "now": return now;
                default: throw new IllegalStateException(name);
            }
        }
    }

    /** What goes back by undo. */
    static final class World {
        List<Card> cards = new ArrayList<>();
        int now, used, missed, lacked, state;
        List<int[]> book = new ArrayList<>();

        World copy() {
            World w = new World();
            for (Card c : cards) w.cards.add(c.copy());
            w.now = now; w.used = used; w.missed = missed; w.lacked = lacked; w.state = state;
            w.book.addAll(book);
            return w;
        }
    }

    /** What is told. */
    static final class Telling {
        String[] texts = {"", "", "", ""};
        List<int[]> ahead = new ArrayList<>(), asked = new ArrayList<>(), noted = new ArrayList<>();

        Telling copy() {
            Telling t = new Telling();
            t.texts = texts.clone();
            t.ahead.addAll(ahead); t.asked.addAll(asked); t.noted.addAll(noted);
            return t;
        }
    }

    static final class Fault extends RuntimeException {
        private static final long serialVersionUID = 1L;
        final int kind, place;

        Fault(int kind, int place) {
            super(null, null, false, false);
            this.kind = kind;
            this.place = place;
        }
    }

    World w = new World();
    Telling t = new Telling();
    World imageWorld;
    Telling imageTelling;
    ArrayDeque<World> past = new ArrayDeque<>();
    StringBuilder tape = new StringBuilder();
    int fault, faultPlace = NONE;

    // ---- texts

    static final class Tok {
        final String s;
        final int place;

        Tok(String s, int place) {
            this.s = s;
            this.place = place;
        }

        boolean number() {
            return !s.isEmpty() && Character.isDigit(s.charAt(0)) && s.length() <= 4;
        }
    }

    static List<Tok> tokens(String text) {
        List<Tok> list = new ArrayList<>();
        java.util.regex.Matcher m = java.util.regex.Pattern.compile("[A-Za-z]+|[0-9]+|[^ \n]").matcher(text);
        while (m.find()) list.add(new Tok(m.group(), m.start()));
        list.add(new Tok("", text.length()));
        return list;
    }

    /** Reads a text; evaluates it for a card if there is one, otherwise only looks for faults. */
    final class Parse {
        final List<Tok> toks;
        int at;
        int open;
        Card card;
        int now;
        int lines;
        List<int[]> rows = new ArrayList<>();

        Parse(String text) {
            toks = tokens(text);
        }

        Tok tok() {
            return toks.get(at);
        }

        boolean is(String s) {
            return tok().s.equals(s);
        }

        Fault bad(int kind) {
            return new Fault(kind, tok().place);
        }

        void want(String s) {
            if (!is(s)) throw bad(1);
            at++;
        }

        int number() {
            if (!tok().number()) throw bad(1);
            return Integer.parseInt(tok().s);
        }

        int bounded(int low, int high) {
            int v = number();
            if (v < low || v > high) throw bad(2);
            at++;
            return v;
        }

        void first(String... words) {
            boolean some = false;
            for (String word : words) some |= is(word);
            if (!some) throw bad(1);
            if (lines == 16) throw bad(3);
            lines++;
        }

        /** The law's answer for a word, or null. */
        Integer law(String word) {
            Integer answer = null;
            while (!is("")) {
                first("holds", "dust", "worth");
                boolean mine = is(word);
                at++;
                int e = sum();
                boolean so = true;
                if (is("when")) {
                    at++;
                    so = or();
                }
                want(";");
                if (mine && so && answer == null) answer = e;
            }
            return answer;
        }

        boolean or() {
            boolean a = and();
            while (is("or")) {
                at++;
                a = and() | a;
            }
            return a;
        }

        boolean and() {
            boolean a = cond();
            while (is("and")) {
                at++;
                a = cond() & a;
            }
            return a;
        }

        boolean cond() {
            if (is("not") || is("(")) {
                boolean not = is("not");
                if (open == 8) throw bad(3);
                open++;
                at++;
                boolean a = not ? !cond() : or();
                if (!not) want(")");
                open--;
                return a;
            }
            int a = sum();
            String sign = tok().s;
            if (!sign.equals("<") && !sign.equals("=") && !sign.equals(">")) throw bad(1);
            at++;
            int b = sum();
            return sign.equals("<") ? a < b : sign.equals("=") ? a == b : a > b;
        }

        int sum() {
            int a = product();
            while (is("+") || is("-")) {
                boolean plus = is("+");
                at++;
                int b = product();
                a = plus ? a + b : a - b;
            }
            return a;
        }

        int product() {
            int a = unit();
            while (is("*") || is("/")) {
                boolean times = is("*");
                at++;
                if (times) {
                    a *= unit();
                } else {
                    int b = number();
                    if (b == 0) throw bad(2);
                    at++;
                    a /= b;
                }
            }
            return a;
        }

        int unit() {
            if (tok().number()) {
                int v = number();
                at++;
                return v;
            }
            switch (tok().s) {
                case "person": case "firm": case "trade": case "year": case "bent":
                case "worn": case "rung": case "age": case "now":
                    int v = card == null ? 1 : card.get(tok().s, now);
                    at++;
                    return v;
                default:
                    throw bad(1);
            }
        }

        void met() {
            while (!is("")) {
                first("person");
                at++;
                int a = bounded(0, 11);
                want("by");
                int b = number();
                if (b > 11 || b == a) throw bad(2);
                at++;
                want(";");
                rows.add(new int[] {a, b});
            }
        }

        void called() {
            while (!is("")) {
                first("firm");
                at++;
                int f = bounded(0, 7);
                want("from");
                int a = bounded(0, 99);
                want("to");
                int b = number();
                if (b > 99 || b < a) throw bad(2);
                at++;
                want(";");
                rows.add(new int[] {f, a, b});
            }
        }

        void plan(int cards) {
            while (!is("")) {
                first("in");
                at++;
                int y = bounded(0, 99);
                int what = List.of("throw", "ring", "bend", "find").indexOf(tok().s);
                if (what < 0) throw bad(1);
                at++;
                int v = what == 0 ? bounded(1, 14) : what == 1 ? bounded(0, 11) : bounded(0, cards - 1);
                want(";");
                rows.add(new int[] {y, what, v});
            }
        }

        Parse run(int k, int cards) {
            if (k == 0) law("holds");
            else if (k == 1) met();
            else if (k == 2) called();
            else plan(cards);
            return this;
        }
    }

    int tells(World v, int card, String word) {
        Card c = v.cards.get(card);
        Parse p = new Parse(t.texts[0]);
        p.card = c;
        p.now = v.now;
        Integer e = p.law(word);
        int age = Math.max(0, v.now - c.year);
        int most = 1000;
        int usual = 900 - 20 * age;
        if (word.equals("dust")) {
            most = 99;
            usual = Math.floorDiv(age, 9);
        } else if (word.equals("worth")) {
            most = 999;
            usual = 99 - age;
        }
        int x = e == null ? usual : e;
        return x < 0 ? 0 : x > most ? most : x;
    }

    List<int[]> rows(int k) {
        return new Parse(t.texts[k]).run(k, 14).rows;
    }

    int by(int person) {
        for (int[] r : rows(1)) if (r[0] == person) return r[1];
        return NONE;
    }

    // ---- deeds

    int draw(World v, int m) {
        v.state = v.state * 1664525 + 1013904223;
        return (int) (((v.state & 0xffffffffL) >> 8) % m);
    }

    void line(World v, int what, int which, int much) {
        if (v.book.size() < 150) v.book.add(new int[] {v.now, what, which, much});
    }

    interface Among {
        boolean has(Card c);
    }

    int best(World v, Among among) {
        int best = NONE;
        for (int i = v.cards.size() - 1; i >= 0; i--) {
            Card c = v.cards.get(i);
            if (c.kept && among.has(c) && (best == NONE || tells(v, i, "holds") >= tells(v, best, "holds"))) best = i;
        }
        return best;
    }

    boolean holdsNow(World v, int card, boolean thought) {
        int holds = tells(v, card, "holds");
        v.cards.get(card).rung++;
        return thought ? holds >= 500 : draw(v, 1000) < holds;
    }

    int doRing(World v, int person, boolean thought) {
        int i = best(v, c -> c.person == person);
        if (i == NONE) return NONE;
        int holds = tells(v, i, "holds");
        boolean yes = holdsNow(v, i, thought);
        line(v, yes ? 0 : 1, i, holds);
        Card c = v.cards.get(i);
        if (yes) c.year = v.now;
        else c.worn = Math.min(99, c.worn + 9);
        return yes ? 1 : 0;
    }

    int doThrow(World v, int n) {
        int many = 0;
        while (many < n) {
            int least = NONE;
            for (int i = v.cards.size() - 1; i >= 0; i--) {
                if (v.cards.get(i).kept && (least == NONE || tells(v, i, "worth") <= tells(v, least, "worth"))) least = i;
            }
            if (least == NONE) break;
            v.cards.get(least).kept = false;
            line(v, 2, least, tells(v, least, "worth"));
            many++;
        }
        return many;
    }

    boolean doBend(World v, int i) {
        Card c = v.cards.get(i);
        c.bent = c.bent == 0 ? 1 : 0;
        line(v, 3, i, c.bent);
        return true;
    }

    boolean doFind(World v, int i) {
        Card c = v.cards.get(i);
        if (c.kept) return false;
        c.kept = true;
        c.worn = 0;
        line(v, 4, i, 0);
        return true;
    }

    void doYear(World v, boolean thought) {
        for (int[] r : rows(3)) {
            if (r[0] != v.now) continue;
            if (r[1] == 0) doThrow(v, r[2]);
            else if (r[1] == 1) doRing(v, r[2], thought);
            else if (r[1] == 2) doBend(v, r[2]);
            else doFind(v, r[2]);
        }
        int trade = thought ? v.now % 6 : draw(v, 6);
        int i = best(v, c -> c.trade == trade);
        if (i == NONE) {
            v.lacked++;
            line(v, 7, trade, 0);
        } else {
            int holds = tells(v, i, "holds");
            if (holdsNow(v, i, thought)) {
                v.used++;
                line(v, 5, i, holds);
            } else {
                v.missed++;
                line(v, 6, i, holds);
            }
        }
        for (int k = 0; k < v.cards.size(); k++) {
            Card c = v.cards.get(k);
            if (!c.kept) continue;
            int was = c.worn;
            c.worn = Math.min(99, c.worn + tells(v, k, "dust"));
            if (c.worn == 99) {
                c.kept = false;
                line(v, 8, k, was);
            }
        }
        v.now++;
    }

    void remember() {
        past.addLast(w.copy());
        if (past.size() > 6) past.removeFirst();
    }

    boolean isCard(int i) {
        return i >= 0 && i < w.cards.size();
    }

    static boolean in(int v, int low, int high) {
        return v >= low && v <= high;
    }

    List<Integer> kept() {
        List<Integer> list = new ArrayList<>();
        for (int i = 0; i < w.cards.size(); i++) if (w.cards.get(i).kept) list.add(i);
        return list;
    }

    // ---- the face

    int state(int v) {
        int was = w.state;
        w.state = v;
        past.clear();
        return was;
    }

    int card(int person, int firm, int trade, int year) {
        if (!in(person, 0, 11) || !in(firm, 0, 7) || !in(trade, 0, 5) || !in(year, 0, 99)) return NONE;
        if (w.cards.size() == 14) return NONE;
        Card c = new Card();
        c.person = person; c.firm = firm; c.trade = trade; c.year = year;
        w.cards.add(c);
        past.clear();
        return w.cards.size() - 1;
    }

    boolean set(int what, int who, int v) {
        if (!in(what, 0, 2) || !in(v, 0, 99) || what > 0 && !isCard(who)) return false;
        if (what == 0) w.now = v;
        else if (what == 1) w.cards.get(who).year = v;
        else w.cards.get(who).worn = v;
        past.clear();
        return true;
    }

    int ring(int person) {
        if (!in(person, 0, 11) || best(w, c -> c.person == person) == NONE) return NONE;
        remember();
        return doRing(w, person, false);
    }

    int toss(int n) {
        if (!in(n, 1, 14)) return NONE;
        remember();
        return doThrow(w, n);
    }

    boolean does(int card, boolean find) {
        if (!isCard(card)) return false;
        if (find && w.cards.get(card).kept) return false;
        remember();
        return find ? doFind(w, card) : doBend(w, card);
    }

    int years(int n) {
        if (!in(n, 1, 30) || w.now + n > 99) return NONE;
        int was = w.used;
        for (int i = 0; i < n; i++) {
            remember();
            doYear(w, false);
        }
        return w.used - was;
    }

    int feed(int a, int b, int c, int d, int e) {
        if (tape.length() > 380) return NONE;
        for (int v : new int[] {a, b, c, d, e}) {
            tape.append((char) (v >> 24 & 255)).append((char) (v >> 16 & 255));
            tape.append((char) (v >> 8 & 255)).append((char) (v & 255));
        }
        return tape.length();
    }

    boolean end(int n) {
        if (n < 0 || n > tape.length()) return false;
        tape.setLength(n);
        return true;
    }

    int text(int k) {
        fault = 0;
        faultPlace = NONE;
        String s = tape.toString();
        tape.setLength(0);
        if (!in(k, 0, 3)) return NONE;
        try {
            Parse p = new Parse(s).run(k, w.cards.size());
            t.texts[k] = s;
            if (k == 3) past.clear();
            return p.lines;
        } catch (Fault f) {
            fault = f.kind;
            faultPlace = f.place;
            return NONE;
        }
    }

    int fault(int what) {
        return what == 0 ? fault : what == 1 ? faultPlace : NONE;
    }

    int of(int card, int what) {
        if (!isCard(card)) return NONE;
        Card c = w.cards.get(card);
        String[] names = {"person", "firm", "trade", "year", "bent", "worn", "rung"};
        if (in(what, 0, 6)) return c.get(names[what], 0);
        if (what == 7) return c.kept ? 1 : 0;
        return what == 8 ? tells(w, card, "holds") : what == 9 ? tells(w, card, "dust")
            : what == 10 ? tells(w, card, "worth") : NONE;
    }

    int met(int person) {
        return by(person);
    }

    int called(int firm, int what) {
        if (!in(firm, 0, 7) || !in(what, 0, 1)) return NONE;
        int answer = what == 0 ? 0 : 99;
        for (int[] r : rows(2)) if (r[0] == firm) answer = r[1 + what];
        return answer;
    }

    int book(int i, int what) {
        return in(i, 0, w.book.size() - 1) && in(what, 0, 3) ? w.book.get(i)[what] : NONE;
    }

    int goes(int n, int what) {
        if (!in(n, 1, 60) || !in(what, 0, 3)) return NONE;
        World v = w.copy();
        for (int i = 0; i < n; i++) doYear(v, true);
        int many = 0;
        for (Card c : v.cards) if (c.kept) many++;
        return new int[] {v.used, v.missed, v.lacked, many}[what];
    }

    int tell(List<int[]> list, int most, int what, int v, boolean good, int is) {
        if (what == NONE) {
            list.clear();
            return 0;
        }
        if (!good || list.size() == most) return NONE;
        list.add(new int[] {what, v, is});
        return list.size();
    }

    int ahead(int a, int b) {
        return tell(t.ahead, 12, a, b, isCard(a) && isCard(b) && a != b, 0);
    }

    /** Whether all can be, with one card got just in year y (NONE: no card). */
    boolean canBe(int card, int y) {
        int[] year = new int[w.cards.size()];
        for (int i = 0; i < year.length; i++) year[i] = called(w.cards.get(i).firm, 0);
        if (card != NONE) {
            if (y < year[card] || y > called(w.cards.get(card).firm, 1)) return false;
            year[card] = y;
        }
        for (boolean moved = true; moved;) {
            moved = false;
            for (int[] r : t.ahead) {
                if (year[r[1]] < year[r[0]]) {
                    year[r[1]] = year[r[0]];
                    moved = true;
                }
            }
        }
        for (int i = 0; i < year.length; i++) if (year[i] > called(w.cards.get(i).firm, 1)) return false;
        return card == NONE || year[card] == y;
    }

    int dated(int card, int what) {
        if (!isCard(card) || !in(what, 0, 1) || !canBe(NONE, 0)) return NONE;
        for (int i = 0; i < 100; i++) {
            int y = what == 0 ? i : 99 - i;
            if (canBe(card, y)) return y;
        }
        return NONE;
    }

    boolean beside(int[] by, int a, int b) {
        return by[a] == b || by[b] == a;
    }

    int[] allBy() {
        int[] by = new int[12];
        for (int i = 0; i < 12; i++) by[i] = by(i);
        return by;
    }

    /** All ways from one on, without coming twice to anybody; keeps the best one to somebody. */
    void walk(int[] by, List<Integer> way, int goals, int[] best) {
        int last = way.get(way.size() - 1);
        if ((goals >> last & 1) != 0) {
            int first = way.size() > 1 ? way.get(1) : last;
            int[] now = {way.size() - 1, last, first};
            if (best[0] == NONE || java.util.Arrays.compare(now, best) < 0) System.arraycopy(now, 0, best, 0, 3);
        }
        for (int p = 0; p < 12; p++) {
            if (beside(by, last, p) && !way.contains(p)) {
                way.add(p);
                walk(by, way, goals, best);
                way.remove(way.size() - 1);
            }
        }
    }

    int peopleWith(Among among) {
        int set = 0;
        for (Card c : w.cards) if (c.kept && among.has(c)) set |= 1 << c.person;
        return set;
    }

    int hands(int trade, int what) {
        if (!in(trade, 0, 5) || !in(what, 0, 2)) return NONE;
        int[] best = {NONE, NONE, NONE};
        List<Integer> way = new ArrayList<>();
        way.add(0);
        walk(allBy(), way, peopleWith(c -> c.trade == trade), best);
        return best[what];
    }

    int led(int person) {
        if (!in(person, 0, 11)) return NONE;
        int[] by = allBy();
        int set = 0;
        for (int p = 0; p < 12; p++) {
            int q = p;
            for (int i = 0; i < 12 && q != NONE; i++) {
                q = by[q];
                if (q == person && p != person) set |= 1 << p;
            }
        }
        return set;
    }

    int root(int person) {
        if (!in(person, 0, 11)) return NONE;
        List<Integer> way = new ArrayList<>();
        int p = person;
        while (!way.contains(p)) {
            way.add(p);
            if (by(p) == NONE) return p;
            p = by(p);
        }
        return p;
    }

    int tells(int what) {
        if (!in(what, 0, 1)) return NONE;
        int[] by = allBy();
        int all = peopleWith(c -> true);
        for (int p = 0; p < 12; p++) if (by[p] != NONE) all |= 1 << p | 1 << by[p];
        all &= ~1;
        int best = NONE;
        for (int set = 0; set < 4096; set++) {
            if ((set & ~all) != 0) continue;
            boolean good = true;
            for (int p = 0; p < 12; p++) {
                if ((all >> p & 1) == 0) continue;
                boolean told = (set >> p & 1) != 0;
                for (int q = 0; q < 12; q++) told |= (set >> q & 1) != 0 && beside(by, p, q);
                good &= told;
            }
            if (good && (best == NONE || Integer.bitCount(set) < Integer.bitCount(best))) best = set;
        }
        return what == 0 ? Integer.bitCount(best) : best;
    }

    int hears(int not, int begins) {
        if (!in(not, 0, 4095) || !in(begins, 0, 11) || (not >> begins & 1) != 0) return NONE;
        int[] by = allBy();
        ArrayDeque<Integer> next = new ArrayDeque<>();
        next.add(begins);
        int set = 0;
        while (!next.isEmpty()) {
            int p = next.remove();
            if ((set >> p & 1) != 0 || (not >> p & 1) != 0) continue;
            set |= 1 << p;
            for (int q = 0; q < 12; q++) if (beside(by, p, q)) next.add(q);
        }
        return set;
    }

    static int bound(int what) {
        return what == 0 ? 11 : what == 1 ? 7 : 5;
    }

    int asks(int what, int v) {
        return tell(t.asked, 10, what, v, in(what, 0, 2) && in(v, 0, bound(what)), 0);
    }

    static int field(Card c, int what) {
        return what == 0 ? c.person : what == 1 ? c.firm : what == 2 ? c.trade : what == 3 ? c.year : c.bent;
    }

    int keeps(int k, int what) {
        if (!in(k, 0, 14) || !in(what, 0, 1)) return NONE;
        int bestFound = NONE, best = 0;
        for (int set = 0; set < 1 << w.cards.size(); set++) {
            int many = Integer.bitCount(set);
            if (many > k) continue;
            boolean all = true;
            for (int i = 0; i < w.cards.size(); i++) all &= (set >> i & 1) == 0 || w.cards.get(i).kept;
            if (!all) continue;
            int found = 0;
            for (int[] q : t.asked) {
                boolean one = false;
                for (int i = 0; i < w.cards.size(); i++) {
                    one |= (set >> i & 1) != 0 && field(w.cards.get(i), q[0]) == q[1];
                }
                if (one) found++;
            }
            if (found > bestFound || found == bestFound && many < Integer.bitCount(best)) {
                bestFound = found;
                best = set;
            }
        }
        return what == 0 ? bestFound : best;
    }

    int sorted(int what) {
        if (!in(what, 0, 1)) return NONE;
        int best = 0, least = Integer.MAX_VALUE;
        for (int by = 0; by < 3; by++) {
            int sum = 0;
            for (int[] q : t.asked) {
                for (int i : kept()) if (q[0] != by || field(w.cards.get(i), by) == q[1]) sum++;
            }
            if (sum < least) {
                least = sum;
                best = by;
            }
        }
        return what == 0 ? best : least;
    }

    int apart() {
        int best = NONE;
        for (int set = 31; set >= 0; set--) {
            java.util.Set<String> seen = new java.util.HashSet<>();
            for (int i : kept()) {
                StringBuilder s = new StringBuilder();
                for (int b = 0; b < 5; b++) if ((set >> b & 1) != 0) s.append(field(w.cards.get(i), b)).append(',');
                seen.add(s.toString());
            }
            if (seen.size() == kept().size() && (best == NONE || Integer.bitCount(set) <= Integer.bitCount(best))) best = set;
        }
        return best;
    }

    int seconds() {
        Map<Integer, Integer> first = new HashMap<>();
        for (int i : kept()) {
            Integer f = first.get(w.cards.get(i).person);
            if (f == null || w.cards.get(i).year < w.cards.get(f).year) first.put(w.cards.get(i).person, i);
        }
        int set = 0;
        for (int i : kept()) if (first.get(w.cards.get(i).person) != i) set |= 1 << i;
        return set;
    }

    int beside(int card, int what) {
        if (!isCard(card) || !in(what, 0, 1)) return NONE;
        int best = NONE, most = NONE;
        for (int i : kept()) {
            int many = 0;
            for (int b = 0; b < 4; b++) if (field(w.cards.get(i), b) == field(w.cards.get(card), b)) many++;
            if (i != card && many > most) {
                most = many;
                best = i;
            }
        }
        return what == 0 ? best : most;
    }

    int note(int what, int v, boolean is) {
        int[] most = {5, 7, 1, 11};
        return tell(t.noted, 8, what, v, in(what, 0, 3) && in(v, 0, most[what]), is ? 1 : 0);
    }

    boolean has(int person, int what, int v) {
        if (what == 3) return (led(v) >> person & 1) != 0;
        for (int i : kept()) {
            Card c = w.cards.get(i);
            if (c.person == person && (what == 0 ? c.trade : what == 1 ? c.firm : c.bent) == v) return true;
        }
        return false;
    }

    int whose(int what) {
        if (!in(what, 0, 1)) return NONE;
        List<Integer> people = new ArrayList<>();
        int set = 0;
        for (int p = 0; p < 12; p++) {
            boolean all = false;
            for (int i : kept()) all |= w.cards.get(i).person == p;
            for (int[] n : t.noted) all &= has(p, n[0], n[1]) == (n[2] == 1);
            if (all) {
                people.add(p);
                set |= 1 << p;
            }
        }
        if (what == 0) return set;
        if (people.size() < 2) return NONE;
        int best = NONE, least = 99;
        for (int trade = 0; trade < 6; trade++) {
            int yes = 0, no = 0;
            for (int p : people) {
                if (has(p, 0, trade)) yes++;
                else no++;
            }
            if (Math.max(yes, no) < least) {
                least = Math.max(yes, no);
                best = trade;
            }
        }
        return best;
    }

    int uses(int what) {
        if (what == 1) return best(w, c -> true);
        if (what != 0) return NONE;
        int sum = 0;
        for (int i : kept()) sum += tells(w, i, "holds");
        return Math.floorDiv(sum, 1000);
    }

    boolean wins(List<Integer> piles, Map<List<Integer>, Boolean> known) {
        List<Integer> key = new ArrayList<>(piles);
        java.util.Collections.sort(key);
        Boolean k = known.get(key);
        if (k != null) return k;
        boolean wins = false;
        for (int f = 0; f < key.size(); f++) {
            for (int n = 1; n <= key.get(f); n++) {
                List<Integer> next = new ArrayList<>(key);
                next.set(f, key.get(f) - n);
                wins |= !wins(next, known);
            }
        }
        known.put(key, wins);
        return wins;
    }

    private final Map<List<Integer>, Boolean> games = new HashMap<>();

    int game(int what) {
        if (!in(what, 0, 1)) return NONE;
        List<Integer> piles = new ArrayList<>();
        for (int f = 0; f < 8; f++) piles.add(0);
        for (int i : kept()) piles.set(w.cards.get(i).firm, piles.get(w.cards.get(i).firm) + 1);
        for (int f = 0; f < 8; f++) {
            for (int n = 1; n <= piles.get(f); n++) {
                List<Integer> next = new ArrayList<>(piles);
                next.set(f, piles.get(f) - n);
                if (!wins(next, games)) return what == 0 ? f : n;
            }
        }
        return NONE;
    }

    boolean undo() {
        if (past.isEmpty()) return false;
        w = past.removeLast();
        return true;
    }

    boolean image(boolean taken) {
        if (taken) {
            imageWorld = w.copy();
            imageTelling = t.copy();
            return true;
        }
        if (imageWorld == null) return false;
        w = imageWorld.copy();
        t = imageTelling.copy();
        past.clear();
        return true;
    }

    int look(int what) {
        int set = 0;
        for (int i : kept()) set |= 1 << i;
        switch (what) {
            case 0: return w.cards.size();
            case 1: return w.now;
            case 2: return w.used;
            case 3: return w.missed;
            case 4: return w.lacked;
            case 5: return set;
            case 6: return w.book.size();
            case 7: return w.state;
            case 8: case 9: case 10: case 11: return new Parse(t.texts[what - 8]).run(what - 8, 14).lines;
            case 12: return t.ahead.size();
            case 13: return t.asked.size();
            case 14: return t.noted.size();
            case 15: return past.size();
            default: return NONE;
        }
    }
}
