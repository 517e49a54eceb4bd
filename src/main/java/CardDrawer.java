/**
 * A drawer of cards, met somewhere: whose they are, how likely their numbers still hold, how the
 * years go over them, and what can be thought of them. DOC.md tells what each call promises.
 */
public final class CardDrawer {
    public static final int NONE = -1;

    private static final int PEOPLE = 12;
    private static final int FIRMS = 8;
    private static final int TRADES = 6;
    private static final int CARDS = 14;
    private static final int YEARS = 100;
    private static final int LAST_YEAR = 99;
    private static final int MOST_WORN = 99;
    private static final int MOST_YEARS = 30;
    private static final int MOST_THOUGHT_YEARS = 60;

    // What a card bears, by the numbers under which of() is asked for it.
    private static final int PERSON = 0;
    private static final int FIRM = 1;
    private static final int TRADE = 2;
    private static final int YEAR = 3;
    private static final int BENT = 4;
    private static final int WORN = 5;
    private static final int RUNG = 6;
    private static final int BORNE = 7;

    // The words of the law, as the reader counts them.
    private static final int HOLDS = 0;
    private static final int DUST = 1;
    private static final int WORTH = 2;

    private static final int LAW = 0;
    private static final int MET = 1;
    private static final int CALLED = 2;
    private static final int PLAN = 3;
    private static final int TEXTS = 4;
    private static final int LINES = 16;
    private static final int TAPE = 400;
    private static final int OPEN = 8;

    // What a line of the book tells.
    private static final int ANSWERED = 0;
    private static final int UNANSWERED = 1;
    private static final int THROWN = 2;
    private static final int BENDED = 3;
    private static final int FOUND = 4;
    private static final int USED = 5;
    private static final int MISSED = 6;
    private static final int LACKED = 7;
    private static final int CRUMBLED = 8;

    // What a note tells of its writer.
    private static final int NOTE_TRADE = 0;
    private static final int NOTE_FIRM = 1;
    private static final int NOTE_BENT = 2;

    // Tokens: a sign is its own character, so the rest keeps clear of 0 .. 255 or of the signs.
    private static final int END_TOKEN = 0;
    private static final int NO_TOKEN = 1;
    private static final int FIRST_WORD = 300;
    private static final int WHEN_WORD = 303;
    private static final int OR_WORD = 304;
    private static final int AND_WORD = 305;
    private static final int NOT_WORD = 306;
    private static final int PERSON_WORD = 307;
    private static final int FIRM_WORD = 308;
    private static final int NOW_WORD = 315;
    private static final int BY_WORD = 316;
    private static final int FROM_WORD = 317;
    private static final int TO_WORD = 318;
    private static final int IN_WORD = 319;
    private static final int THROW_WORD = 320;
    private static final int RING_WORD = 321;
    private static final int BEND_WORD = 322;
    private static final int FIND_WORD = 323;
    private static final int FIRST_NUMBER = 1000;
    private static final int WORDS_TOLD = 24;
    private static final int WORD_WIDTH = 6;
    private static final String WORDS = "holds dust  worth when  or    and   not   personfirm  trade year  bent  worn  rung  age   now   by    from  to    in    throw ring  bend  find  ";
    private static final String SIGNS = ";+-*/()<=>";

    private final Drawer drawer;
    private final Told told;
    private final Rows ledger;
    private final Keeper keeper;
    private final Drawer thought;
    private final Keeper thinker;
    private final History history;
    private final Tape tape;
    private final Reader reader;
    private final Dating dating;
    private final Circle circle;
    private final Chooser chooser;
    private final Drawer imagedDrawer;
    private final Told imagedTold;
    private final Rows imagedLedger;
    private boolean imaged;

    /** An empty drawer. */
    public CardDrawer() {
        drawer = new Drawer();
        told = new Told();
        ledger = new Rows(150);
        keeper = new Keeper(drawer, told, ledger, false);
        thought = new Drawer();
        thinker = new Keeper(thought, told, new Rows(0), true);
        history = new History();
        tape = new Tape();
        reader = new Reader(tape);
        dating = new Dating(drawer, told);
        circle = new Circle(drawer, told);
        chooser = new Chooser(drawer, told);
        imagedDrawer = new Drawer();
        imagedTold = new Told();
        imagedLedger = new Rows(150);
        imaged = false;
    }

    /** Tells the state of draws; answers what it was. */
    public int state(int v) {
        int was = drawer.draws;
        drawer.draws = v;
        history.forget();
        return was;
    }

    /** Puts a card into the drawer; answers its number. */
    public int card(int person, int firm, int trade, int year) {
        if (!within(person, PEOPLE) || !within(firm, FIRMS) || !within(trade, TRADES)) {
            return NONE;
        }
        if (!within(year, YEARS) || drawer.cards >= CARDS) {
            return NONE;
        }
        history.forget();
        return drawer.put(person, firm, trade, year);
    }

    /** Tells the year that is (0), or of a card its year (1) or how worn it is (2). */
    public boolean set(int what, int who, int v) {
        if (!within(v, what == 2 ? MOST_WORN + 1 : YEARS)) {
            return false;
        }
        if (what == 0) {
            drawer.now = v;
        } else if ((what == 1 || what == 2) && drawer.has(who)) {
            drawer.write(who, what == 1 ? YEAR : WORN, v);
        } else {
            return false;
        }
        history.forget();
        return true;
    }

    /** Rings a person: 1 if he answers, 0 if not. */
    public int ring(int person) {
        if (!within(person, PEOPLE) || drawer.keptWith(PERSON, person) == 0) {
            return NONE;
        }
        history.remember(drawer, ledger.count);
        return keeper.ringPerson(person);
    }

    /** Throws the n cards of least worth; answers how many there were to throw. */
    public int toss(int n) {
        if (n < 1 || n > CARDS) {
            return NONE;
        }
        history.remember(drawer, ledger.count);
        return keeper.throwCards(n);
    }

    /** Bends a card, or finds one that was thrown or crumbled. */
    public boolean does(int card, boolean find) {
        if (!drawer.has(card) || find && drawer.isKept(card)) {
            return false;
        }
        history.remember(drawer, ledger.count);
        if (find) {
            keeper.findCard(card);
        } else {
            keeper.bendCard(card);
        }
        return true;
    }

    /** Lets n years go by; answers how often a card was used. */
    public int years(int n) {
        if (n < 1 || n > MOST_YEARS || drawer.now + n > LAST_YEAR) {
            return NONE;
        }
        int usedBefore = drawer.used;
        for (int i = 0; i < n; i++) {
            history.remember(drawer, ledger.count);
            keeper.passYear();
        }
        return drawer.used - usedBefore;
    }

    /** Puts twenty bytes behind the tape; answers how many it has. */
    public int feed(int a, int b, int c, int d, int e) {
        if (!tape.hasRoom(20)) {
            return NONE;
        }
        tape.append(a);
        tape.append(b);
        tape.append(c);
        tape.append(d);
        tape.append(e);
        return tape.length;
    }

    /** Leaves the first n bytes of the tape. */
    public boolean end(int n) {
        if (n < 0 || n > tape.length) {
            return false;
        }
        tape.length = n;
        return true;
    }

    /** Takes the tape as text k; answers how many lines it has. */
    public int text(int k) {
        boolean good = reader.read(k, drawer.cards);
        tape.length = 0;
        if (!good) {
            return NONE;
        }
        told.take(k, reader);
        if (k == PLAN) {
            history.forget();
        }
        return reader.lines;
    }

    /** The fault of the latest text (0) and its place (1). */
    public int fault(int what) {
        if (what == 0) {
            return reader.fault;
        }
        return what == 1 ? reader.faultPlace : NONE;
    }

    /** What a card bears, and what the law tells of it. */
    public int of(int card, int what) {
        if (!drawer.has(card)) {
            return NONE;
        }
        if (within(what, BORNE)) {
            return drawer.read(card, what);
        }
        switch (what) {
            case 7: return drawer.isKept(card) ? 1 : 0;
            case 8: return told.law.tell(drawer, card, HOLDS);
            case 9: return told.law.tell(drawer, card, DUST);
            case 10: return told.law.tell(drawer, card, WORTH);
            default: return NONE;
        }
    }

    /** Who introduced a person. */
    public int met(int person) {
        return told.introducer(person);
    }

    /** From when (0) and till when (1) a firm is called so. */
    public int called(int firm, int what) {
        return what == 0 ? told.firstYear(firm) : what == 1 ? told.lastYear(firm) : NONE;
    }

    /** Line i of the book. */
    public int book(int i, int what) {
        return ledger.at(i, what);
    }

    /** How n years go in thought. */
    public int goes(int n, int what) {
        if (n < 1 || n > MOST_THOUGHT_YEARS || !within(what, 4)) {
            return NONE;
        }
        thought.copyFrom(drawer);
        for (int i = 0; i < n; i++) {
            thinker.passYear();
        }
        switch (what) {
            case 0: return thought.used;
            case 1: return thought.missed;
            case 2: return thought.lacked;
            default: return Integer.bitCount(thought.kept);
        }
    }

    /** Tells that card a was got ahead of card b, or forgets all such (a NONE). */
    public int ahead(int a, int b) {
        if (a == NONE) {
            return told.ahead.clear();
        }
        if (!drawer.has(a) || !drawer.has(b) || a == b) {
            return NONE;
        }
        return told.ahead.add(a, b, 0, 0);
    }

    /** The least (0) and the greatest (1) year in which a card can have been got. */
    public int dated(int card, int what) {
        if (!drawer.has(card) || !within(what, 2) || !dating.narrow()) {
            return NONE;
        }
        return what == 0 ? dating.least[card] : dating.greatest[card];
    }

    /** By how many hands (0) who (1) can be asked about a trade, and by whom first (2). */
    public int hands(int trade, int what) {
        if (!within(trade, TRADES) || !within(what, 3) || !circle.seek(trade)) {
            return NONE;
        }
        if (what == 0) {
            return circle.steps;
        }
        return what == 1 ? circle.who : circle.first;
    }

    /** All whom a person led here, as a set. */
    public int led(int person) {
        return within(person, PEOPLE) ? circle.ledBy(person) : NONE;
    }

    /** Where the way back from a person ends. */
    public int root(int person) {
        return within(person, PEOPLE) ? circle.rootOf(person) : NONE;
    }

    /** How many must be told so that all hear (0), and who (1). */
    public int tells(int what) {
        if (!within(what, 2)) {
            return NONE;
        }
        int set = circle.tellers();
        return what == 0 ? Integer.bitCount(set) : set;
    }

    /** All who hear what one begins to tell, but for those who must not. */
    public int hears(int not, int begins) {
        if (!within(not, 1 << PEOPLE) || !within(begins, PEOPLE) || holdsBit(not, begins)) {
            return NONE;
        }
        return circle.hearers(not, begins);
    }

    /** Tells a question: person (0), firm (1), trade (2) is v; or forgets all (NONE). */
    public int asks(int what, int v) {
        if (what == NONE) {
            return told.asked.clear();
        }
        if (!within(what, 3) || !within(v, kinds(what))) {
            return NONE;
        }
        return told.asked.add(what, v, 0, 0);
    }

    /** By k cards at most: how many questions find one (0), and which cards (1). */
    public int keeps(int k, int what) {
        if (k < 0 || k > CARDS || !within(what, 2)) {
            return NONE;
        }
        chooser.choose(k);
        return what == 0 ? chooser.found : chooser.chosen;
    }

    /** By what the cards are best sorted (0), and how many are looked at then (1). */
    public int sorted(int what) {
        if (!within(what, 2)) {
            return NONE;
        }
        int best = chooser.bestOrder();
        return what == 0 ? best : chooser.lookedAt(best);
    }

    /** By how little all kept cards are told apart, as a set. */
    public int apart() {
        return chooser.fewestApart();
    }

    /** The kept cards that are second ones of the same person, as a set. */
    public int seconds() {
        return chooser.secondOnes();
    }

    /** The kept card that belongs beside a card (0), and how much they have in common (1). */
    public int beside(int card, int what) {
        if (!drawer.has(card) || !within(what, 2)) {
            return NONE;
        }
        int other = chooser.nearest(card);
        if (other == NONE || what == 0) {
            return other;
        }
        return chooser.inCommon(card, other);
    }

    /** Tells of the writer of a note what is so, or is not; or forgets all (what NONE). */
    public int note(int what, int v, boolean is) {
        if (what == NONE) {
            return told.noted.clear();
        }
        if (!within(what, 4) || !within(v, noteKinds(what))) {
            return NONE;
        }
        return told.noted.add(what, v, is ? 1 : 0, 0);
    }

    /** Whose the note can be, as a set (0), and about which trade to ask next (1). */
    public int whose(int what) {
        if (!within(what, 2)) {
            return NONE;
        }
        int set = circle.writers();
        return what == 0 ? set : circle.askNext(set);
    }

    /** How many cards will ever be used (0), and the likeliest one (1). */
    public int uses(int what) {
        if (what == 0) {
            return keeper.sumOfHolds() / 1000;
        }
        return what == 1 ? keeper.likeliest(drawer.kept) : NONE;
    }

    /** Of which firm (0) how many (1) who begins the game of throwing throws. */
    public int game(int what) {
        if (!within(what, 2)) {
            return NONE;
        }
        int firm = chooser.firmToThrow();
        if (firm == NONE || what == 0) {
            return firm;
        }
        return chooser.cardsToThrow(firm);
    }

    /** Undoes the latest year, ringing, throwing, bending or finding. */
    public boolean undo() {
        return history.goBack(drawer, ledger);
    }

    /** Takes an image of all, or goes back to the one that was taken. */
    public boolean image(boolean taken) {
        if (taken) {
            imagedDrawer.copyFrom(drawer);
            imagedTold.copyFrom(told);
            imagedLedger.copyFrom(ledger);
            imaged = true;
        } else if (imaged) {
            drawer.copyFrom(imagedDrawer);
            told.copyFrom(imagedTold);
            ledger.copyFrom(imagedLedger);
            history.forget();
        }
        return imaged;
    }

    /** How much there is of what is asked for. */
    public int look(int what) {
        switch (what) {
            case 0: return drawer.cards;
            case 1: return drawer.now;
            case 2: return drawer.used;
            case 3: return drawer.missed;
            case 4: return drawer.lacked;
            case 5: return drawer.kept;
            case 6: return ledger.count;
            case 7: return drawer.draws;
            case 8: return told.law.lines;
            case 9: return told.metLines;
            case 10: return told.calledLines;
            case 11: return told.plan.count;
            case 12: return told.ahead.count;
            case 13: return told.asked.count;
            case 14: return told.noted.count;
            case 15: return history.count;
            default: return NONE;
        }
    }

    private static boolean within(int v, int many) {
        return v >= 0 && v < many;
    }

    private static boolean holdsBit(int set, int i) {
        return (set >> i & 1) != 0;
    }

    private static int kinds(int what) {
        switch (what) {
            case PERSON: return PEOPLE;
            case FIRM: return FIRMS;
            default: return TRADES;
        }
    }

    private static int noteKinds(int what) {
        switch (what) {
            case NOTE_TRADE: return TRADES;
            case NOTE_FIRM: return FIRMS;
            case NOTE_BENT: return 2;
            default: return PEOPLE;
        }
    }

    /** All that years change: the cards, the counts and the state of draws. */
    private static final class Drawer {
        private final int[] borne = new int[BORNE * CARDS];
        int cards;
        int kept;
        int now;
        int used;
        int missed;
        int lacked;
        int draws;

        void copyFrom(Drawer other) {
            System.arraycopy(other.borne, 0, borne, 0, borne.length);
            cards = other.cards;
            kept = other.kept;
            now = other.now;
            used = other.used;
            missed = other.missed;
            lacked = other.lacked;
            draws = other.draws;
        }

        boolean has(int card) {
            return card >= 0 && card < cards;
        }

        boolean isKept(int card) {
            return holdsBit(kept, card);
        }

        int read(int card, int what) {
            return within(card, CARDS) && within(what, BORNE) ? borne[what * CARDS + card] : NONE;
        }

        void write(int card, int what, int v) {
            if (within(card, CARDS) && within(what, BORNE)) {
                borne[what * CARDS + card] = v;
            }
        }

        /** The caller has looked that there is room. */
        int put(int person, int firm, int trade, int year) {
            int card = cards;
            write(card, PERSON, person);
            write(card, FIRM, firm);
            write(card, TRADE, trade);
            write(card, YEAR, year);
            write(card, BENT, 0);
            write(card, WORN, 0);
            write(card, RUNG, 0);
            kept |= 1 << card;
            cards++;
            return card;
        }

        void drop(int card) {
            kept &= ~(1 << card);
        }

        void wear(int card, int more) {
            write(card, WORN, Math.min(MOST_WORN, read(card, WORN) + more));
        }

        int keptWith(int what, int v) {
            int set = 0;
            for (int card = 0; card < cards; card++) {
                if (isKept(card) && read(card, what) == v) {
                    set |= 1 << card;
                }
            }
            return set;
        }

        int peopleOn(int set) {
            int people = 0;
            for (int card = 0; card < cards; card++) {
                if (holdsBit(set, card)) {
                    people |= 1 << read(card, PERSON);
                }
            }
            return people;
        }

        int draw(int m) {
            draws = draws * 1664525 + 1013904223;
            return m > 0 ? (draws >>> 8) % m : 0;
        }
    }

    /** Lines of four numbers, up to a limit. */
    private static final class Rows {
        private static final int WIDTH = 4;
        private final int limit;
        private final int[] cells;
        int count;

        Rows(int limit) {
            this.limit = limit;
            this.cells = new int[limit * WIDTH];
        }

        /** How many lines there are then; NONE if there is no room. */
        int add(int a, int b, int c, int d) {
            if (count >= limit) {
                return NONE;
            }
            int place = count * WIDTH;
            cells[place] = a;
            cells[place + 1] = b;
            cells[place + 2] = c;
            cells[place + 3] = d;
            count++;
            return count;
        }

        int clear() {
            count = 0;
            return count;
        }

        int at(int row, int column) {
            if (row < 0 || row >= count || !within(column, WIDTH)) {
                return NONE;
            }
            return cells[row * WIDTH + column];
        }

        /** The other one has the same limit. */
        void copyFrom(Rows other) {
            System.arraycopy(other.cells, 0, cells, 0, Math.min(cells.length, other.count * WIDTH));
            count = other.count;
        }
    }

    /** The law, as tokens with each sign behind what it joins. */
    private static final class Law {
        private final int[] code = new int[TAPE];
        private final int[] words = new int[LINES];
        private final int[] starts = new int[LINES];
        private final int[] whens = new int[LINES];
        private final int[] ends = new int[LINES];
        private final int[] known = new int[NOW_WORD - PERSON_WORD + 1];
        // Eight open ( hold back two values each, and a comparison some four: 22 in all.
        private final int[] stack = new int[32];
        int size;
        int lines;

        void copyFrom(Law other) {
            System.arraycopy(other.code, 0, code, 0, other.size);
            System.arraycopy(other.words, 0, words, 0, LINES);
            System.arraycopy(other.starts, 0, starts, 0, LINES);
            System.arraycopy(other.whens, 0, whens, 0, LINES);
            System.arraycopy(other.ends, 0, ends, 0, LINES);
            size = other.size;
            lines = other.lines;
        }

        void clear() {
            size = 0;
            lines = 0;
        }

        /** Every token is added once at most, so the tape's length bounds the code. */
        void add(int token) {
            if (size < code.length) {
                code[size] = token;
                size++;
            }
        }

        /** All from start on that was added, of which what begins at when says whether it counts. */
        void addLine(int word, int start, int when) {
            if (lines < LINES) {
                words[lines] = word;
                starts[lines] = start;
                whens[lines] = when;
                ends[lines] = size;
                lines++;
            }
        }

        /** What the law tells of a card for a word. */
        int tell(Drawer drawer, int card, int word) {
            for (int what = 0; what < BORNE; what++) {
                known[what] = drawer.read(card, what);
            }
            int age = Math.max(0, drawer.now - drawer.read(card, YEAR));
            known[BORNE] = age;
            known[BORNE + 1] = drawer.now;
            for (int line = 0; line < lines; line++) {
                int when = whens[line];
                int end = ends[line];
                if (words[line] == word && (when == end || run(when, end) != 0)) {
                    return held(word, run(starts[line], when));
                }
            }
            return held(word, unlessTold(word, age));
        }

        private static int unlessTold(int word, int age) {
            switch (word) {
                case HOLDS: return 900 - 20 * age;
                case DUST: return age / 9;
                default: return 99 - age;
            }
        }

        private static int held(int word, int v) {
            int most = word == HOLDS ? 1000 : word == DUST ? 99 : 999;
            return Math.max(0, Math.min(most, v));
        }

        private int run(int from, int to) {
            int top = 0;
            for (int i = from; i < to; i++) {
                int step = code[i];
                if (step >= FIRST_NUMBER || step >= PERSON_WORD && step <= NOW_WORD) {
                    if (top < stack.length) {
                        stack[top] = step >= FIRST_NUMBER ? step - FIRST_NUMBER : known[step - PERSON_WORD];
                        top++;
                    }
                } else if (step == NOT_WORD) {
                    if (top > 0) {
                        stack[top - 1] = 1 - stack[top - 1];
                    }
                } else if (top > 1) {
                    top--;
                    stack[top - 1] = joined(step, stack[top - 1], stack[top]);
                }
            }
            return top > 0 ? stack[top - 1] : 0;
        }

        private static int joined(int sign, int a, int b) {
            switch (sign) {
                case '+': return a + b;
                case '-': return a - b;
                case '*': return a * b;
                case '/': return b == 0 ? 0 : a / b;
                case '<': return a < b ? 1 : 0;
                case '=': return a == b ? 1 : 0;
                case '>': return a > b ? 1 : 0;
                case AND_WORD: return a & b;
                default: return a | b;
            }
        }
    }

    /** All that is told beside the cards: the four texts, what came ahead, questions, notes. */
    private static final class Told {
        final Law law = new Law();
        private final int[] by = new int[PEOPLE];
        private final int[] from = new int[FIRMS];
        private final int[] till = new int[FIRMS];
        final Rows plan = new Rows(LINES);
        final Rows ahead = new Rows(12);
        final Rows asked = new Rows(10);
        final Rows noted = new Rows(8);
        int metLines;
        int calledLines;

        Told() {
            for (int person = 0; person < PEOPLE; person++) {
                by[person] = NONE;
            }
            for (int firm = 0; firm < FIRMS; firm++) {
                till[firm] = LAST_YEAR;
            }
        }

        void copyFrom(Told other) {
            law.copyFrom(other.law);
            System.arraycopy(other.by, 0, by, 0, PEOPLE);
            System.arraycopy(other.from, 0, from, 0, FIRMS);
            System.arraycopy(other.till, 0, till, 0, FIRMS);
            plan.copyFrom(other.plan);
            ahead.copyFrom(other.ahead);
            asked.copyFrom(other.asked);
            noted.copyFrom(other.noted);
            metLines = other.metLines;
            calledLines = other.calledLines;
        }

        int introducer(int person) {
            return within(person, PEOPLE) ? by[person] : NONE;
        }

        int firstYear(int firm) {
            return within(firm, FIRMS) ? from[firm] : NONE;
        }

        int lastYear(int firm) {
            return within(firm, FIRMS) ? till[firm] : NONE;
        }

        void take(int which, Reader reader) {
            switch (which) {
                case LAW: law.copyFrom(reader.law); break;
                case MET: takeMet(reader.rows); break;
                case CALLED: takeCalled(reader.rows); break;
                default: plan.copyFrom(reader.rows); break;
            }
        }

        private void takeMet(Rows rows) {
            for (int person = 0; person < PEOPLE; person++) {
                by[person] = NONE;
            }
            for (int i = 0; i < rows.count; i++) {
                int person = rows.at(i, 0);
                if (within(person, PEOPLE) && by[person] == NONE) {
                    by[person] = rows.at(i, 1);
                }
            }
            metLines = rows.count;
        }

        private void takeCalled(Rows rows) {
            for (int firm = 0; firm < FIRMS; firm++) {
                from[firm] = 0;
                till[firm] = LAST_YEAR;
            }
            for (int i = 0; i < rows.count; i++) {
                int firm = rows.at(i, 0);
                if (within(firm, FIRMS)) {
                    from[firm] = rows.at(i, 1);
                    till[firm] = rows.at(i, 2);
                }
            }
            calledLines = rows.count;
        }
    }

    /** Bytes that came, and the tokens that stand in them. */
    private static final class Tape {
        private final int[] bytes = new int[TAPE];
        final int[] tokens = new int[TAPE + 1];
        final int[] places = new int[TAPE + 1];
        private int count;
        int length;

        boolean hasRoom(int more) {
            return length + more <= TAPE;
        }

        void append(int four) {
            for (int shift = 24; shift >= 0 && hasRoom(1); shift -= 8) {
                bytes[length] = four >>> shift & 255;
                length++;
            }
        }

        /** Lays the tokens out with END_TOKEN behind them, which no reader passes. */
        void scan() {
            count = 0;
            int place = 0;
            for (int i = 0; i < TAPE && place < length; i++) {
                int sign = bytes[place];
                int next = place + 1;
                if (isLetter(sign)) {
                    next = pastLetters(place);
                    put(place, wordAt(place, next));
                } else if (isDigit(sign)) {
                    next = pastDigits(place);
                    put(place, numberAt(place, next));
                } else if (sign != ' ' && sign != '\n') {
                    put(place, SIGNS.indexOf((char) sign) >= 0 ? sign : NO_TOKEN);
                }
                place = next;
            }
            put(length, END_TOKEN);
        }

        private void put(int place, int token) {
            if (count <= TAPE) {
                places[count] = place;
                tokens[count] = token;
                count++;
            }
        }

        private static boolean isLetter(int sign) {
            return sign >= 'a' && sign <= 'z' || sign >= 'A' && sign <= 'Z';
        }

        private static boolean isDigit(int sign) {
            return sign >= '0' && sign <= '9';
        }

        private int pastLetters(int from) {
            for (int i = from; i < length; i++) {
                if (!isLetter(bytes[i])) {
                    return i;
                }
            }
            return length;
        }

        private int pastDigits(int from) {
            for (int i = from; i < length; i++) {
                if (!isDigit(bytes[i])) {
                    return i;
                }
            }
            return length;
        }

        private int wordAt(int from, int to) {
            if (to - from > WORD_WIDTH) {
                return NO_TOKEN;
            }
            for (int word = 0; word < WORDS_TOLD; word++) {
                if (isWord(word, from, to)) {
                    return FIRST_WORD + word;
                }
            }
            return NO_TOKEN;
        }

        private boolean isWord(int word, int from, int to) {
            for (int i = 0; i < WORD_WIDTH; i++) {
                int sign = from + i < to ? bytes[from + i] : ' ';
                if (WORDS.charAt(word * WORD_WIDTH + i) != sign) {
                    return false;
                }
            }
            return true;
        }

        private int numberAt(int from, int to) {
            if (to - from > 4) {
                return NO_TOKEN;
            }
            int number = 0;
            for (int i = from; i < to; i++) {
                number = number * 10 + bytes[i] - '0';
            }
            return FIRST_NUMBER + number;
        }
    }

    /** Reads the tape as a text: what it told if it is good, or its first fault. */
    private static final class Reader {
        private final Tape tape;
        final Law law = new Law();
        final Rows rows = new Rows(LINES);
        int lines;
        int fault;
        int faultPlace = NONE;
        private int at;
        private int token;
        private int number;

        Reader(Tape tape) {
            this.tape = tape;
        }

        /** Whether there is such a text and it has no fault. */
        boolean read(int which, int cards) {
            fault = 0;
            faultPlace = NONE;
            lines = 0;
            law.clear();
            rows.clear();
            if (!within(which, TEXTS)) {
                return false;
            }
            tape.scan();
            at = 0;
            token = tape.tokens[0];
            boolean good = true;
            for (int i = 0; i <= LINES && good && token != END_TOKEN; i++) {
                switch (which) {
                    case LAW: good = lawLine(); break;
                    case MET: good = metLine(); break;
                    case CALLED: good = calledLine(); break;
                    default: good = planLine(cards); break;
                }
                lines++;
            }
            return good;
        }

        private void advance() {
            if (at < TAPE) {
                at++;
            }
            token = tape.tokens[at];
        }

        private boolean fails(int why) {
            fault = why;
            faultPlace = tape.places[at];
            return false;
        }

        private boolean passes(int due) {
            if (token != due) {
                return fails(1);
            }
            advance();
            return true;
        }

        /** The first word of a line: some word may stand there, but not for a 17th time. */
        private boolean opens(int firstWord, int lastWord) {
            if (token < firstWord || token > lastWord) {
                return fails(1);
            }
            if (lines >= LINES) {
                return fails(3);
            }
            advance();
            return true;
        }

        private boolean passesNumber(int least, int most) {
            if (token < FIRST_NUMBER) {
                return fails(1);
            }
            number = token - FIRST_NUMBER;
            if (number < least || number > most) {
                return fails(2);
            }
            advance();
            return true;
        }

        private boolean metLine() {
            if (!opens(PERSON_WORD, PERSON_WORD) || !passesNumber(0, PEOPLE - 1) || !passes(BY_WORD)) {
                return false;
            }
            int person = number;
            if (token == FIRST_NUMBER + person) {
                return fails(2);
            }
            if (!passesNumber(0, PEOPLE - 1)) {
                return false;
            }
            rows.add(person, number, 0, 0);
            return passes(';');
        }

        private boolean calledLine() {
            if (!opens(FIRM_WORD, FIRM_WORD) || !passesNumber(0, FIRMS - 1) || !passes(FROM_WORD)) {
                return false;
            }
            int firm = number;
            if (!passesNumber(0, LAST_YEAR) || !passes(TO_WORD)) {
                return false;
            }
            int from = number;
            if (!passesNumber(from, LAST_YEAR)) {
                return false;
            }
            rows.add(firm, from, number, 0);
            return passes(';');
        }

        private boolean planLine(int cards) {
            if (!opens(IN_WORD, IN_WORD) || !passesNumber(0, LAST_YEAR)) {
                return false;
            }
            int year = number;
            int deed = token;
            if (deed < THROW_WORD || deed > FIND_WORD) {
                return fails(1);
            }
            advance();
            int least = deed == THROW_WORD ? 1 : 0;
            int most = deed == THROW_WORD ? CARDS : deed == RING_WORD ? PEOPLE - 1 : cards - 1;
            if (!passesNumber(least, most)) {
                return false;
            }
            rows.add(year, deed, number, 0);
            return passes(';');
        }

        private boolean lawLine() {
            int word = token - FIRST_WORD;
            int start = law.size;
            if (!opens(FIRST_WORD, WHEN_WORD - 1) || !sum()) {
                return false;
            }
            int when = law.size;
            if (token == WHEN_WORD) {
                advance();
                if (!either(0)) {
                    return false;
                }
            }
            law.addLine(word, start, when);
            return passes(';');
        }

        /** B and A at once, within so many ( and not that are open: an or waits till all behind it is whole. */
        private boolean either(int open) {
            boolean waits = false;
            if (!condition(open)) {
                return false;
            }
            for (int i = 0; i < TAPE && (token == AND_WORD || token == OR_WORD); i++) {
                int word = token;
                if (word == OR_WORD && waits) {
                    law.add(OR_WORD);
                }
                waits |= word == OR_WORD;
                advance();
                if (!condition(open)) {
                    return false;
                }
                if (word == AND_WORD) {
                    law.add(AND_WORD);
                }
            }
            if (waits) {
                law.add(OR_WORD);
            }
            return true;
        }

        /** C. */
        private boolean condition(int open) {
            int word = token;
            if (word == NOT_WORD || word == '(') {
                if (open >= OPEN) {
                    return fails(3);
                }
                advance();
                if (word == '(') {
                    return either(open + 1) && passes(')');
                }
                if (!condition(open + 1)) {
                    return false;
                }
                law.add(NOT_WORD);
                return true;
            }
            if (!sum()) {
                return false;
            }
            int sign = token;
            if (sign != '<' && sign != '=' && sign != '>') {
                return fails(1);
            }
            advance();
            if (!sum()) {
                return false;
            }
            law.add(sign);
            return true;
        }

        /** E and T at once: a + or - waits till the product behind it is whole. */
        private boolean sum() {
            int waits = NO_TOKEN;
            if (!unit(false)) {
                return false;
            }
            for (int i = 0; i < TAPE && isJoint(token); i++) {
                int sign = token;
                boolean adds = sign == '+' || sign == '-';
                if (adds) {
                    addIfSign(waits);
                    waits = sign;
                }
                advance();
                if (!unit(sign == '/')) {
                    return false;
                }
                if (!adds) {
                    law.add(sign);
                }
            }
            addIfSign(waits);
            return true;
        }

        private static boolean isJoint(int sign) {
            return sign == '+' || sign == '-' || sign == '*' || sign == '/';
        }

        private void addIfSign(int sign) {
            if (sign != NO_TOKEN) {
                law.add(sign);
            }
        }

        /** U, or the NUMBER that divides. */
        private boolean unit(boolean divides) {
            boolean isNumber = token >= FIRST_NUMBER;
            boolean isKnown = token >= PERSON_WORD && token <= NOW_WORD;
            if (!isNumber && (divides || !isKnown)) {
                return fails(1);
            }
            if (divides && token == FIRST_NUMBER) {
                return fails(2);
            }
            law.add(token);
            advance();
            return true;
        }
    }

    /** Does to a drawer what is done to it, by draws and with a book, or in thought. */
    private static final class Keeper {
        private final Drawer drawer;
        private final Told told;
        private final Rows ledger;
        private final boolean inThought;
        private int greatestHolds;

        Keeper(Drawer drawer, Told told, Rows ledger, boolean inThought) {
            this.drawer = drawer;
            this.told = told;
            this.ledger = ledger;
            this.inThought = inThought;
        }

        private void enter(int what, int which, int howMuch) {
            ledger.add(drawer.now, what, which, howMuch);
        }

        /** The card of a set with greatest holds, which is kept beside for who asks next. */
        int likeliest(int set) {
            int best = NONE;
            greatestHolds = NONE;
            for (int card = 0; card < drawer.cards; card++) {
                if (holdsBit(set, card)) {
                    int holds = told.law.tell(drawer, card, HOLDS);
                    if (holds > greatestHolds) {
                        greatestHolds = holds;
                        best = card;
                    }
                }
            }
            return best;
        }

        int sumOfHolds() {
            int sum = 0;
            for (int card = 0; card < drawer.cards; card++) {
                if (drawer.isKept(card)) {
                    sum += told.law.tell(drawer, card, HOLDS);
                }
            }
            return sum;
        }

        /** Whether the number on the card that likeliest() found still holds. */
        private boolean reaches(int card) {
            drawer.write(card, RUNG, drawer.read(card, RUNG) + 1);
            return inThought ? greatestHolds >= 500 : drawer.draw(1000) < greatestHolds;
        }

        int ringPerson(int person) {
            int card = likeliest(drawer.keptWith(PERSON, person));
            if (card == NONE) {
                return NONE;
            }
            boolean answers = reaches(card);
            enter(answers ? ANSWERED : UNANSWERED, card, greatestHolds);
            if (answers) {
                drawer.write(card, YEAR, drawer.now);
                return 1;
            }
            drawer.wear(card, 9);
            return 0;
        }

        int throwCards(int n) {
            int thrown = 0;
            for (int i = 0; i < n && throwLeast(); i++) {
                thrown++;
            }
            return thrown;
        }

        private boolean throwLeast() {
            int least = NONE;
            int leastWorth = 0;
            for (int card = 0; card < drawer.cards; card++) {
                if (drawer.isKept(card)) {
                    int worth = told.law.tell(drawer, card, WORTH);
                    if (least == NONE || worth < leastWorth) {
                        leastWorth = worth;
                        least = card;
                    }
                }
            }
            if (least == NONE) {
                return false;
            }
            drawer.drop(least);
            enter(THROWN, least, leastWorth);
            return true;
        }

        void bendCard(int card) {
            int bent = 1 - drawer.read(card, BENT);
            drawer.write(card, BENT, bent);
            enter(BENDED, card, bent);
        }

        void findCard(int card) {
            if (drawer.isKept(card)) {
                return;
            }
            drawer.kept |= 1 << card;
            drawer.write(card, WORN, 0);
            enter(FOUND, card, 0);
        }

        void passYear() {
            for (int line = 0; line < told.plan.count; line++) {
                if (told.plan.at(line, 0) == drawer.now) {
                    carryOut(told.plan.at(line, 1), told.plan.at(line, 2));
                }
            }
            wantTrade();
            for (int card = 0; card < drawer.cards; card++) {
                if (drawer.isKept(card)) {
                    wearCard(card);
                }
            }
            drawer.now++;
        }

        private void carryOut(int deed, int which) {
            if (deed == THROW_WORD) {
                throwCards(which);
            } else if (deed == RING_WORD) {
                ringPerson(which);
            } else if (drawer.has(which)) {
                if (deed == BEND_WORD) {
                    bendCard(which);
                } else {
                    findCard(which);
                }
            }
        }

        private void wantTrade() {
            int trade = inThought ? drawer.now % TRADES : drawer.draw(TRADES);
            int card = likeliest(drawer.keptWith(TRADE, trade));
            if (card == NONE) {
                drawer.lacked++;
                enter(LACKED, trade, 0);
            } else if (reaches(card)) {
                drawer.used++;
                enter(USED, card, greatestHolds);
            } else {
                drawer.missed++;
                enter(MISSED, card, greatestHolds);
            }
        }

        private void wearCard(int card) {
            int ahead = drawer.read(card, WORN);
            drawer.wear(card, told.law.tell(drawer, card, DUST));
            if (drawer.read(card, WORN) >= MOST_WORN) {
                drawer.drop(card);
                enter(CRUMBLED, card, ahead);
            }
        }
    }

    /** The drawer as it was ahead of the latest six deeds. */
    private static final class History {
        private static final int KEPT = 6;
        private final Drawer[] drawers = new Drawer[KEPT];
        private final int[] lines = new int[KEPT];
        int count;

        History() {
            for (int i = 0; i < KEPT; i++) {
                drawers[i] = new Drawer();
            }
        }

        void forget() {
            count = 0;
        }

        /** Lines of the book only come behind, so their number is enough to go back. */
        void remember(Drawer drawer, int bookLines) {
            if (count == KEPT) {
                dropOldest();
            }
            drawers[count].copyFrom(drawer);
            lines[count] = bookLines;
            count++;
        }

        private void dropOldest() {
            Drawer oldest = drawers[0];
            for (int i = 1; i < KEPT; i++) {
                drawers[i - 1] = drawers[i];
                lines[i - 1] = lines[i];
            }
            drawers[KEPT - 1] = oldest;
            count = KEPT - 1;
        }

        boolean goBack(Drawer drawer, Rows ledger) {
            if (count == 0) {
                return false;
            }
            count--;
            drawer.copyFrom(drawers[count]);
            ledger.count = lines[count];
            return true;
        }
    }

    /** Between which years cards can have been got. */
    private static final class Dating {
        private final Drawer drawer;
        private final Told told;
        final int[] least = new int[CARDS];
        final int[] greatest = new int[CARDS];

        Dating(Drawer drawer, Told told) {
            this.drawer = drawer;
            this.told = told;
        }

        /** Whether all that is told can be. */
        boolean narrow() {
            for (int card = 0; card < drawer.cards; card++) {
                int firm = drawer.read(card, FIRM);
                least[card] = told.firstYear(firm);
                greatest[card] = told.lastYear(firm);
            }
            // A way along what is told has fewer steps than there are cards.
            for (int round = 0; round < CARDS; round++) {
                for (int i = 0; i < told.ahead.count; i++) {
                    order(told.ahead.at(i, 0), told.ahead.at(i, 1));
                }
            }
            for (int card = 0; card < drawer.cards; card++) {
                if (least[card] > greatest[card]) {
                    return false;
                }
            }
            return true;
        }

        private void order(int sooner, int later) {
            if (drawer.has(sooner) && drawer.has(later)) {
                least[later] = Math.max(least[later], least[sooner]);
                greatest[sooner] = Math.min(greatest[sooner], greatest[later]);
            }
        }
    }

    /** People, who introduced whom, and whose a note can be. */
    private static final class Circle {
        private final Drawer drawer;
        private final Told told;
        private final int[] near = new int[PEOPLE];
        private final int[] far = new int[PEOPLE];
        int steps;
        int who;
        int first;

        Circle(Drawer drawer, Told told) {
            this.drawer = drawer;
            this.told = told;
        }

        /** Learns who is beside whom; answers all who are in MET. */
        private int learn() {
            for (int person = 0; person < PEOPLE; person++) {
                near[person] = 0;
            }
            int all = 0;
            for (int person = 0; person < PEOPLE; person++) {
                int by = told.introducer(person);
                if (within(by, PEOPLE)) {
                    near[person] |= 1 << by;
                    near[by] |= 1 << person;
                    all |= 1 << person | 1 << by;
                }
            }
            return all;
        }

        private int besideSome(int set) {
            int all = 0;
            for (int person = 0; person < PEOPLE; person++) {
                if (holdsBit(set, person)) {
                    all |= near[person];
                }
            }
            return all;
        }

        /** How many steps all are from one, NONE where there is no way. */
        private void measure(int start) {
            for (int person = 0; person < PEOPLE; person++) {
                far[person] = NONE;
            }
            int seen = 0;
            int wave = 1 << start;
            for (int step = 0; step < PEOPLE; step++) {
                for (int person = 0; person < PEOPLE; person++) {
                    if (holdsBit(wave, person)) {
                        far[person] = step;
                    }
                }
                seen |= wave;
                wave = besideSome(wave) & ~seen;
            }
        }

        /** Whether somebody can be asked about the trade. */
        boolean seek(int trade) {
            learn();
            measure(0);
            int able = drawer.peopleOn(drawer.keptWith(TRADE, trade));
            who = NONE;
            steps = PEOPLE;
            for (int person = 0; person < PEOPLE; person++) {
                if (holdsBit(able, person) && far[person] != NONE && far[person] < steps) {
                    steps = far[person];
                    who = person;
                }
            }
            if (who == NONE) {
                return false;
            }
            first = who == 0 ? 0 : firstOnTheWay();
            return true;
        }

        private int firstOnTheWay() {
            measure(who);
            for (int person = 0; person < PEOPLE; person++) {
                if (holdsBit(near[0], person) && far[person] == steps - 1) {
                    return person;
                }
            }
            return who;
        }

        int ledBy(int leader) {
            int set = 1 << leader;
            for (int round = 0; round < PEOPLE; round++) {
                for (int person = 0; person < PEOPLE; person++) {
                    int by = told.introducer(person);
                    if (by != NONE && holdsBit(set, by)) {
                        set |= 1 << person;
                    }
                }
            }
            return set & ~(1 << leader);
        }

        int rootOf(int person) {
            int seen = 0;
            int one = person;
            for (int step = 0; step < PEOPLE; step++) {
                seen |= 1 << one;
                int by = told.introducer(one);
                if (!within(by, PEOPLE)) {
                    return one;
                }
                one = by;
                if (holdsBit(seen, one)) {
                    return one;
                }
            }
            return one;
        }

        int tellers() {
            int all = (learn() | drawer.peopleOn(drawer.kept)) & ~1;
            int fewest = all;
            int set = 0;
            // The subsets of all come by size of number, so of several the least comes first.
            for (int i = 0; i < 1 << PEOPLE && set != all; i++) {
                if (Integer.bitCount(set) < Integer.bitCount(fewest) && isHeardByAll(set, all)) {
                    fewest = set;
                }
                set = set - all & all;
            }
            return fewest;
        }

        private boolean isHeardByAll(int set, int all) {
            return (all & ~(set | besideSome(set))) == 0;
        }

        int hearers(int not, int begins) {
            learn();
            int set = 1 << begins;
            for (int round = 0; round < PEOPLE; round++) {
                set |= besideSome(set) & ~not;
            }
            return set;
        }

        int writers() {
            int set = drawer.peopleOn(drawer.kept);
            for (int i = 0; i < told.noted.count; i++) {
                int so = peopleFor(told.noted.at(i, 0), told.noted.at(i, 1));
                set &= told.noted.at(i, 2) == 1 ? so : ~so;
            }
            return set;
        }

        private int peopleFor(int what, int v) {
            switch (what) {
                case NOTE_TRADE: return drawer.peopleOn(drawer.keptWith(TRADE, v));
                case NOTE_FIRM: return drawer.peopleOn(drawer.keptWith(FIRM, v));
                case NOTE_BENT: return drawer.peopleOn(drawer.keptWith(BENT, v));
                default: return within(v, PEOPLE) ? ledBy(v) : 0;
            }
        }

        int askNext(int set) {
            int many = Integer.bitCount(set);
            if (many < 2) {
                return NONE;
            }
            int best = NONE;
            int leastLeft = many + 1;
            for (int trade = 0; trade < TRADES; trade++) {
                int have = Integer.bitCount(set & drawer.peopleOn(drawer.keptWith(TRADE, trade)));
                int left = Math.max(have, many - have);
                if (left < leastLeft) {
                    leastLeft = left;
                    best = trade;
                }
            }
            return best;
        }
    }

    /** What is thought of the kept cards as they lie there. */
    private static final class Chooser {
        private static final int ORDERS = 3;
        private static final int MARKS = 5;
        private final Drawer drawer;
        private final Told told;
        // For each set of questions the best set of cards that finds just these, or NONE.
        private final int[] cardsFor = new int[1 << 10];
        int found;
        int chosen;

        Chooser(Drawer drawer, Told told) {
            this.drawer = drawer;
            this.told = told;
        }

        /** The cards by which most questions find one, k at most. */
        void choose(int k) {
            int sets = Math.min(cardsFor.length, 1 << told.asked.count);
            for (int set = 0; set < sets; set++) {
                cardsFor[set] = NONE;
            }
            cardsFor[0] = 0;
            // Card by card upwards: what comes behind is greater for all sets alike, so that of two
            // sets for the same questions the better one stays the better one.
            for (int card = 0; card < drawer.cards; card++) {
                if (drawer.isKept(card)) {
                    tryCard(card, sets);
                }
            }
            found = 0;
            chosen = 0;
            for (int set = 0; set < sets; set++) {
                int cards = cardsFor[set];
                if (cards != NONE && Integer.bitCount(cards) <= k) {
                    takeIfBetter(Integer.bitCount(set), cards);
                }
            }
        }

        private void tryCard(int card, int sets) {
            int questions = questionsFor(card);
            if (questions == 0) {
                return;
            }
            for (int set = 0; set < sets; set++) {
                if (cardsFor[set] != NONE) {
                    int more = set | questions;
                    int cards = cardsFor[set] | 1 << card;
                    if (more < sets && (cardsFor[more] == NONE || isLess(cards, cardsFor[more]))) {
                        cardsFor[more] = cards;
                    }
                }
            }
        }

        private void takeIfBetter(int many, int cards) {
            if (many > found || many == found && isLess(cards, chosen)) {
                found = many;
                chosen = cards;
            }
        }

        private static boolean isLess(int cards, int others) {
            int fewer = Integer.bitCount(cards) - Integer.bitCount(others);
            return fewer < 0 || fewer == 0 && cards < others;
        }

        private int questionsFor(int card) {
            int set = 0;
            for (int i = 0; i < told.asked.count; i++) {
                if (drawer.read(card, told.asked.at(i, 0)) == told.asked.at(i, 1)) {
                    set |= 1 << i;
                }
            }
            return set;
        }

        int bestOrder() {
            int best = 0;
            for (int order = 1; order < ORDERS; order++) {
                if (lookedAt(order) < lookedAt(best)) {
                    best = order;
                }
            }
            return best;
        }

        int lookedAt(int order) {
            int sum = 0;
            for (int i = 0; i < told.asked.count; i++) {
                int what = told.asked.at(i, 0);
                int looked = what == order ? drawer.keptWith(what, told.asked.at(i, 1)) : drawer.kept;
                sum += Integer.bitCount(looked);
            }
            return sum;
        }

        int fewestApart() {
            int best = NONE;
            for (int marks = 0; marks < 1 << MARKS; marks++) {
                boolean fewer = best == NONE || Integer.bitCount(marks) < Integer.bitCount(best);
                if (fewer && tellsApart(marks)) {
                    best = marks;
                }
            }
            return best;
        }

        private boolean tellsApart(int marks) {
            for (int card = 0; card < drawer.cards; card++) {
                for (int other = 0; other < card; other++) {
                    if (drawer.isKept(card) && drawer.isKept(other) && isAlike(card, other, marks)) {
                        return false;
                    }
                }
            }
            return true;
        }

        private boolean isAlike(int card, int other, int marks) {
            for (int what = 0; what < MARKS; what++) {
                if (holdsBit(marks, what) && drawer.read(card, what) != drawer.read(other, what)) {
                    return false;
                }
            }
            return true;
        }

        int secondOnes() {
            int set = 0;
            for (int card = 0; card < drawer.cards; card++) {
                if (drawer.isKept(card) && hasSooner(card)) {
                    set |= 1 << card;
                }
            }
            return set;
        }

        private boolean hasSooner(int card) {
            int year = drawer.read(card, YEAR);
            for (int other = 0; other < drawer.cards; other++) {
                if (drawer.isKept(other) && drawer.read(other, PERSON) == drawer.read(card, PERSON)) {
                    int otherYear = drawer.read(other, YEAR);
                    if (otherYear < year || otherYear == year && other < card) {
                        return true;
                    }
                }
            }
            return false;
        }

        int nearest(int card) {
            int best = NONE;
            for (int other = 0; other < drawer.cards; other++) {
                if (other != card && drawer.isKept(other)) {
                    if (best == NONE || inCommon(card, other) > inCommon(card, best)) {
                        best = other;
                    }
                }
            }
            return best;
        }

        int inCommon(int card, int other) {
            int many = 0;
            for (int what = PERSON; what <= YEAR; what++) {
                if (drawer.read(card, what) == drawer.read(other, what)) {
                    many++;
                }
            }
            return many;
        }

        private int pile(int firm) {
            return Integer.bitCount(drawer.keptWith(FIRM, firm));
        }

        /** How many cards of a firm are left so that who comes next loses. */
        private int leftToLose(int firm) {
            int others = 0;
            for (int other = 0; other < FIRMS; other++) {
                if (other != firm) {
                    others ^= pile(other);
                }
            }
            return others;
        }

        int cardsToThrow(int firm) {
            return pile(firm) - leftToLose(firm);
        }

        int firmToThrow() {
            for (int firm = 0; firm < FIRMS; firm++) {
                if (cardsToThrow(firm) > 0) {
                    return firm;
                }
            }
            return NONE;
        }
    }
}
