/** The edges that the document names for what is told and done: promises 1 to 8. */
public final class EdgesOfDeedsTest {
    private static final int NONE = CardDrawer.NONE;
    private static final int MIN = Integer.MIN_VALUE;
    private static final int MAX = Integer.MAX_VALUE;

    private EdgesOfDeedsTest() {
    }

    public static void main(String[] args) throws IllegalAccessException {
        Each.run(EdgesOfDeedsTest.class);
    }

    private static void due(String call, long got, long want) {
        Due.due(call, got, want);
    }

    private static void due(String call, boolean got, boolean want) {
        Due.due(call, got, want);
    }

    /** So many cards: person, firm and trade go round, each got in year 0. */
    private static CardDrawer with(int cards) {
        CardDrawer x = new CardDrawer();
        for (int i = 0; i < cards; i++) {
            x.card(i % 12, i % 8, i % 6, 0);
        }
        return x;
    }

    /** One card of person 3 and trade 2 under a law. */
    private static CardDrawer one(String law) {
        CardDrawer x = new CardDrawer();
        x.card(3, 1, 2, 0);
        Due.taken(x, 0, law, law.replaceAll("[^;]", "").length());
        return x;
    }

    private static void line(CardDrawer x, int i, int now, int what, int which, int howMuch) {
        due("book(" + i + ", 0)", x.book(i, 0), now);
        due("book(" + i + ", 1)", x.book(i, 1), what);
        due("book(" + i + ", 2)", x.book(i, 2), which);
        due("book(" + i + ", 3)", x.book(i, 3), howMuch);
    }

    // ---- 1: a new object

    private static void promise01AllCountsAre0() {
        CardDrawer x = new CardDrawer();
        for (int what = 0; what <= 15; what++) {
            due("look(" + what + ")", x.look(what), 0);
        }
    }

    private static void promise01ThereIsNoCardAndNoLine() {
        CardDrawer x = new CardDrawer();
        for (int what = 0; what <= 10; what++) {
            due("of(0, " + what + ")", x.of(0, what), NONE);
        }
        for (int what = 0; what <= 3; what++) {
            due("book(0, " + what + ")", x.book(0, what), NONE);
        }
        due("set(1, 0, 0)", x.set(1, 0, 0), false);
        due("set(2, 0, 0)", x.set(2, 0, 0), false);
        due("does(0, false)", x.does(0, false), false);
        due("does(0, true)", x.does(0, true), false);
        due("ring(0)", x.ring(0), NONE);
    }

    private static void promise01TextsAndTapeAreEmpty() {
        CardDrawer x = new CardDrawer();
        due("end(1)", x.end(1), false);
        due("end(0)", x.end(0), true);
        due("fault(0)", x.fault(0), 0);
        due("fault(1)", x.fault(1), NONE);
        for (int person = 0; person < 12; person++) {
            due("met(" + person + ")", x.met(person), NONE);
            due("led(" + person + ")", x.led(person), 0);
            due("root(" + person + ")", x.root(person), person);
        }
        for (int firm = 0; firm < 8; firm++) {
            due("called(" + firm + ", 0)", x.called(firm, 0), 0);
            due("called(" + firm + ", 1)", x.called(firm, 1), 99);
        }
    }

    private static void promise01WhatIsThoughtOfNothing() {
        CardDrawer x = new CardDrawer();
        due("hands(0, 0)", x.hands(0, 0), NONE);
        due("tells(0)", x.tells(0), 0);
        due("tells(1)", x.tells(1), 0);
        due("hears(0, 0)", x.hears(0, 0), 1);
        due("keeps(14, 0)", x.keeps(14, 0), 0);
        due("keeps(14, 1)", x.keeps(14, 1), 0);
        due("sorted(0)", x.sorted(0), 0);
        due("sorted(1)", x.sorted(1), 0);
        due("apart()", x.apart(), 0);
        due("seconds()", x.seconds(), 0);
        due("beside(0, 0)", x.beside(0, 0), NONE);
        due("dated(0, 0)", x.dated(0, 0), NONE);
        due("whose(0)", x.whose(0), 0);
        due("whose(1)", x.whose(1), NONE);
        due("uses(0)", x.uses(0), 0);
        due("uses(1)", x.uses(1), NONE);
        due("game(0)", x.game(0), NONE);
        due("game(1)", x.game(1), NONE);
        due("undo()", x.undo(), false);
        due("image(false)", x.image(false), false);
    }

    // ---- 2: state, and draws

    private static void promise02EveryIntCanBeState() {
        CardDrawer x = new CardDrawer();
        int[] told = {MIN, MAX, -1, 1, 0, MIN + 1, MAX - 1};
        int was = 0;
        for (int v : told) {
            due("state(" + v + ")", x.state(v), was);
            due("look(7)", x.look(7), v);
            was = v;
        }
    }

    private static void promise02DrawWrapsAround() {
        CardDrawer x = new CardDrawer();
        int[] told = {0, 1, -1, MAX, MIN, 1290, 1291, 123456789};
        for (int v : told) {
            x.state(v);
            x.years(1);
            due("STATE drawn from " + v, x.look(7), (int) (v * 1664525L + 1013904223L));
        }
    }

    private static int lackedFrom(int next) {
        CardDrawer x = new CardDrawer();
        x.state(Draws.before(next));
        x.years(1);
        due("STATE", x.look(7), next);
        return x.book(0, 2);
    }

    private static void promise02DrawIsTheHighest24Bits() {
        due("bits 0", lackedFrom(0), 0);
        due("the lowest 8 bits do not count", lackedFrom(255), 0);
        due("the ninth bit counts", lackedFrom(256), 1);
        due("5", lackedFrom(5 * 256 + 255), 5);
        due("modulo 6", lackedFrom(6 * 256), 0);
    }

    private static void promise02DrawIsWithoutSign() {
        due("MAX: 8388607 modulo 6", lackedFrom(MAX), 1);
        due("MIN: 8388608 modulo 6", lackedFrom(MIN), 2);
        due("-1: 16777215 modulo 6", lackedFrom(-1), 3);
        due("-256: 16777215 modulo 6", lackedFrom(-256), 3);
        due("-257: 16777214 modulo 6", lackedFrom(-257), 2);
    }

    private static int answeredFrom(int highest, int holds) {
        CardDrawer x = one("holds " + holds + ";");
        x.state(Draws.before(highest * 256));
        return x.ring(3);
    }

    private static void promise02DrawOf1000GoesRound() {
        due("999 below 999", answeredFrom(999, 999), 0);
        due("1000 is 0: below 1", answeredFrom(1000, 1), 1);
        due("1001 is 1: not below 1", answeredFrom(1001, 1), 0);
        due("1999 is 999: not below 999", answeredFrom(1999, 999), 0);
        due("2000 is 0: below 1", answeredFrom(2000, 1), 1);
        due("the greatest, 16777215, is 215: not below 215", answeredFrom(16777215, 215), 0);
        due("the greatest, 16777215, is 215: below 216", answeredFrom(16777215, 216), 1);
    }

    // ---- 3: card

    private static void promise03LeastAndGreatestOfEach() {
        CardDrawer x = new CardDrawer();
        due("card(0, 0, 0, 0)", x.card(0, 0, 0, 0), 0);
        due("card(11, 0, 0, 0)", x.card(11, 0, 0, 0), 1);
        due("card(0, 7, 0, 0)", x.card(0, 7, 0, 0), 2);
        due("card(0, 0, 5, 0)", x.card(0, 0, 5, 0), 3);
        due("card(0, 0, 0, 99)", x.card(0, 0, 0, 99), 4);
        due("its person", x.of(1, 0), 11);
        due("its firm", x.of(2, 1), 7);
        due("its trade", x.of(3, 2), 5);
        due("its year", x.of(4, 3), 99);
    }

    private static void promise03PersonBeyond() {
        CardDrawer x = new CardDrawer();
        for (int person : new int[] {-1, 12, MIN, MAX}) {
            due("card(" + person + ", 0, 0, 0)", x.card(person, 0, 0, 0), NONE);
        }
        due("look(0)", x.look(0), 0);
    }

    private static void promise03FirmBeyond() {
        CardDrawer x = new CardDrawer();
        for (int firm : new int[] {-1, 8, MIN, MAX}) {
            due("card(0, " + firm + ", 0, 0)", x.card(0, firm, 0, 0), NONE);
        }
        due("look(0)", x.look(0), 0);
    }

    private static void promise03TradeBeyond() {
        CardDrawer x = new CardDrawer();
        for (int trade : new int[] {-1, 6, MIN, MAX}) {
            due("card(0, 0, " + trade + ", 0)", x.card(0, 0, trade, 0), NONE);
        }
        due("look(0)", x.look(0), 0);
    }

    private static void promise03YearBeyond() {
        CardDrawer x = new CardDrawer();
        for (int year : new int[] {-1, 100, MIN, MAX}) {
            due("card(0, 0, 0, " + year + ")", x.card(0, 0, 0, year), NONE);
        }
        due("look(0)", x.look(0), 0);
    }

    private static void promise03FourteenAndNoFifteenth() {
        CardDrawer x = with(13);
        due("the fourteenth", x.card(1, 2, 3, 4), 13);
        due("the fifteenth", x.card(1, 2, 3, 4), NONE);
        due("look(0)", x.look(0), 14);
        due("look(5)", x.look(5), 16383);
        due("of(14, 0)", x.of(14, 0), NONE);
    }

    private static void promise03ThrownOnesCountAmongTheFourteen() {
        CardDrawer x = with(14);
        x.toss(14);
        due("the fifteenth", x.card(0, 0, 0, 0), NONE);
        due("look(0)", x.look(0), 14);
        due("look(5)", x.look(5), 0);
    }

    private static void promise03NewCardIsNeitherBentNorWornNorRung() {
        CardDrawer x = with(1);
        due("BENT", x.of(0, 4), 0);
        due("WORN", x.of(0, 5), 0);
        due("RUNG", x.of(0, 6), 0);
        due("KEPT", x.of(0, 7), 1);
        due("NOW stays", x.look(1), 0);
    }

    private static void promise03YearMayBeAboveNow() {
        CardDrawer x = new CardDrawer();
        due("card(0, 0, 0, 1) in the year 0", x.card(0, 0, 0, 1), 0);
        due("YEAR", x.of(0, 3), 1);
    }

    // ---- 4: set

    private static void promise04NowFrom0To99() {
        CardDrawer x = new CardDrawer();
        due("99", x.set(0, 0, 99), true);
        due("100", x.set(0, 0, 100), false);
        due("MAX", x.set(0, 0, MAX), false);
        due("look(1)", x.look(1), 99);
        due("0", x.set(0, 0, 0), true);
        due("-1", x.set(0, 0, -1), false);
        due("MIN", x.set(0, 0, MIN), false);
        due("look(1)", x.look(1), 0);
    }

    private static void promise04WhoIsNotAskedForNow() {
        CardDrawer x = new CardDrawer();
        int year = 1;
        for (int who : new int[] {0, -1, 1, 14, MIN, MAX}) {
            due("set(0, " + who + ", " + year + ")", x.set(0, who, year), true);
            due("look(1)", x.look(1), year);
            year++;
        }
    }

    private static void promise04YearFrom0To99() {
        CardDrawer x = with(1);
        due("99", x.set(1, 0, 99), true);
        due("100", x.set(1, 0, 100), false);
        due("MAX", x.set(1, 0, MAX), false);
        due("of(0, 3)", x.of(0, 3), 99);
        due("0", x.set(1, 0, 0), true);
        due("-1", x.set(1, 0, -1), false);
        due("MIN", x.set(1, 0, MIN), false);
        due("of(0, 3)", x.of(0, 3), 0);
    }

    private static void promise04WornFrom0To99() {
        CardDrawer x = with(1);
        due("99", x.set(2, 0, 99), true);
        due("100", x.set(2, 0, 100), false);
        due("MAX", x.set(2, 0, MAX), false);
        due("of(0, 5)", x.of(0, 5), 99);
        due("it is KEPT", x.of(0, 7), 1);
        due("0", x.set(2, 0, 0), true);
        due("-1", x.set(2, 0, -1), false);
        due("MIN", x.set(2, 0, MIN), false);
        due("of(0, 5)", x.of(0, 5), 0);
    }

    private static void promise04CardThatThereIsNot() {
        CardDrawer x = with(3);
        for (int what = 1; what <= 2; what++) {
            due("the first", x.set(what, 0, 5), true);
            due("the last", x.set(what, 2, 6), true);
            for (int who : new int[] {-1, 3, 13, 14, MIN, MAX}) {
                due("set(" + what + ", " + who + ", 7)", x.set(what, who, 7), false);
            }
        }
        due("YEAR of 0", x.of(0, 3), 5);
        due("WORN of 2", x.of(2, 5), 6);
        due("NOW", x.look(1), 0);
    }

    private static void promise04TheFourteenthCard() {
        CardDrawer x = with(14);
        due("set(1, 13, 8)", x.set(1, 13, 8), true);
        due("set(2, 13, 9)", x.set(2, 13, 9), true);
        due("set(1, 14, 8)", x.set(1, 14, 8), false);
        due("of(13, 3)", x.of(13, 3), 8);
        due("of(13, 5)", x.of(13, 5), 9);
    }

    private static void promise04AnotherWhat() {
        CardDrawer x = with(1);
        for (int what : new int[] {-1, 3, MIN, MAX}) {
            due("set(" + what + ", 0, 1)", x.set(what, 0, 1), false);
        }
        due("NOW", x.look(1), 0);
        due("YEAR", x.of(0, 3), 0);
        due("WORN", x.of(0, 5), 0);
    }

    private static void promise04CardThatIsNotKept() {
        CardDrawer x = with(1);
        x.toss(1);
        due("set(1, 0, 7)", x.set(1, 0, 7), true);
        due("set(2, 0, 8)", x.set(2, 0, 8), true);
        due("of(0, 3)", x.of(0, 3), 7);
        due("of(0, 5)", x.of(0, 5), 8);
        due("of(0, 7)", x.of(0, 7), 0);
    }

    // ---- 5: ring

    private static void promise05PersonFrom0To11() {
        CardDrawer x = with(12);
        Due.taken(x, 0, "holds 1000;", 1);
        due("ring(0)", x.ring(0), 1);
        due("ring(11)", x.ring(11), 1);
        for (int person : new int[] {-1, 12, MIN, MAX}) {
            due("ring(" + person + ")", x.ring(person), NONE);
        }
        due("look(6)", x.look(6), 2);
        due("look(15)", x.look(15), 2);
    }

    private static void promise05NobodyOfWhomThereIsACard() {
        CardDrawer x = one("holds 1000;");
        due("ring(2)", x.ring(2), NONE);
        due("ring(4)", x.ring(4), NONE);
        due("no DRAW", x.look(7), 0);
        due("ring(3)", x.ring(3), 1);
    }

    private static void promise05NoKeptCardOfHis() {
        CardDrawer x = one("holds 1000;");
        x.toss(1);
        int state = x.look(7);
        due("thrown", x.ring(3), NONE);
        due("no DRAW", x.look(7), state);
        due("RUNG", x.of(0, 6), 0);
        due("no line", x.look(6), 1);
        due("nothing to undo of it", x.look(15), 1);
        x.does(0, true);
        due("found", x.ring(3), 1);
    }

    private static void answers(String law, int thousandth, int answered) {
        CardDrawer x = one(law);
        x.set(0, 0, 9);
        x.state(Draws.beforeThousandth(thousandth));
        due(law + " a draw of " + thousandth, x.ring(3), answered);
        due("RUNG", x.of(0, 6), 1);
        due("YEAR", x.of(0, 3), answered == 1 ? 9 : 0);
        due("WORN", x.of(0, 5), answered == 1 ? 0 : 9);
        due("book what", x.book(0, 1), 1 - answered);
    }

    private static void promise05DrawBelowHoldsAnswers() {
        answers("holds 500;", 499, 1);
        answers("holds 500;", 500, 0);
        answers("holds 500;", 0, 1);
        answers("holds 500;", 999, 0);
    }

    private static void promise05HoldsThatNeverOrAlwaysAnswers() {
        answers("holds 0;", 0, 0);
        answers("holds 1;", 0, 1);
        answers("holds 1;", 1, 0);
        answers("holds 999;", 998, 1);
        answers("holds 999;", 999, 0);
        answers("holds 1000;", 999, 1);
    }

    private static void wears(int from, int to) {
        CardDrawer x = one("holds 0;");
        x.set(2, 0, from);
        due("ring(3)", x.ring(3), 0);
        due("WORN from " + from, x.of(0, 5), to);
        due("KEPT", x.of(0, 7), 1);
        due("no line but one", x.look(6), 1);
    }

    private static void promise05WornIs99AtMost() {
        wears(0, 9);
        wears(89, 98);
        wears(90, 99);
        wears(91, 99);
        wears(99, 99);
    }

    private static void promise05AnsweredWearsNothing() {
        CardDrawer x = one("holds 1000;");
        x.set(2, 0, 99);
        due("ring(3)", x.ring(3), 1);
        due("WORN", x.of(0, 5), 99);
    }

    private static void promise05OfSeveralTheLeast() {
        CardDrawer x = new CardDrawer();
        x.card(4, 0, 0, 0);
        x.card(3, 0, 0, 0);
        x.card(3, 1, 0, 0);
        Due.taken(x, 0, "holds 700;", 1);
        x.ring(3);
        line(x, 0, 0, x.book(0, 1), 1, 700);
        due("RUNG of the other one", x.of(2, 6), 0);
    }

    private static void promise05OneMoreIsGreatest() {
        CardDrawer x = new CardDrawer();
        x.card(3, 0, 0, 0);
        x.card(3, 1, 0, 0);
        x.card(4, 2, 0, 0);
        Due.taken(x, 0, "holds 700+firm;", 1);
        x.ring(3);
        line(x, 0, 0, x.book(0, 1), 1, 701);
    }

    private static void promise05OnlyKeptOnesAreLookedAt() {
        CardDrawer x = new CardDrawer();
        x.card(3, 7, 0, 0);
        x.card(3, 1, 0, 0);
        Due.taken(x, 0, "holds 700+firm; worth 9-firm;", 2);
        x.toss(1);
        due("the better one is thrown", x.look(5), 2);
        x.ring(3);
        line(x, 1, 0, x.book(1, 1), 1, 701);
    }

    private static void promise05HoldsIsAskedAheadOfRung() {
        CardDrawer x = one("holds 1000 when rung=0; holds 0;");
        due("ring(3)", x.ring(3), 1);
        due("how much", x.book(0, 3), 1000);
        due("ring(3)", x.ring(3), 0);
        due("how much", x.book(1, 3), 0);
    }

    private static void promise05OneDraw() {
        CardDrawer x = one("holds 500;");
        x.state(77);
        x.ring(3);
        due("STATE", x.look(7), Draws.next(77));
    }

    // ---- 6: toss

    private static void promise06From1To14() {
        CardDrawer x = with(14);
        for (int n : new int[] {0, 15, -1, MIN, MAX}) {
            due("toss(" + n + ")", x.toss(n), NONE);
        }
        due("look(5)", x.look(5), 16383);
        due("look(15)", x.look(15), 0);
        due("toss(1)", x.toss(1), 1);
        due("look(5)", x.look(5), 16382);
        due("toss(14)", x.toss(14), 13);
        due("look(5)", x.look(5), 0);
    }

    private static void promise06FourteenOfFourteen() {
        CardDrawer x = with(14);
        due("toss(14)", x.toss(14), 14);
        due("look(5)", x.look(5), 0);
        due("look(6)", x.look(6), 14);
    }

    private static void promise06OneIsLeft() {
        CardDrawer x = with(14);
        due("toss(13)", x.toss(13), 13);
        due("look(5)", x.look(5), 8192);
    }

    private static void promise06WhileThereIsOne() {
        CardDrawer x = with(2);
        due("toss(3)", x.toss(3), 2);
        due("look(6)", x.look(6), 2);
        due("toss(1)", x.toss(1), 0);
        due("look(6)", x.look(6), 2);
        due("it is a THROWING all the same", x.look(15), 2);
    }

    private static void promise06EmptyDrawer() {
        CardDrawer x = new CardDrawer();
        due("toss(14)", x.toss(14), 0);
        due("toss(15)", x.toss(15), NONE);
        due("look(6)", x.look(6), 0);
    }

    private static void promise06OfSeveralTheLeast() {
        CardDrawer x = with(3);
        Due.taken(x, 0, "worth 5 when person>0; worth 6;", 2);
        due("toss(1)", x.toss(1), 1);
        line(x, 0, 0, 2, 1, 5);
        due("toss(1)", x.toss(1), 1);
        line(x, 1, 0, 2, 2, 5);
        due("toss(1)", x.toss(1), 1);
        line(x, 2, 0, 2, 0, 6);
    }

    private static void promise06WorthIsHeldAheadOfComparing() {
        CardDrawer x = with(3);
        Due.taken(x, 0, "worth 0-person;", 1);
        x.toss(1);
        line(x, 0, 0, 2, 0, 0);
        Due.taken(x, 0, "worth 1000-person+person*2;", 1);
        x.toss(1);
        line(x, 1, 0, 2, 1, 999);
    }

    private static void promise06NoDraw() {
        CardDrawer x = with(3);
        x.state(5);
        x.toss(2);
        due("STATE", x.look(7), 5);
    }

    // ---- 7: does

    private static void promise07CardThatThereIsNot() {
        CardDrawer x = with(3);
        x.toss(3);
        for (int card : new int[] {-1, 3, 13, 14, MIN, MAX}) {
            due("does(" + card + ", false)", x.does(card, false), false);
            due("does(" + card + ", true)", x.does(card, true), false);
        }
        due("look(15)", x.look(15), 1);
        due("look(6)", x.look(6), 3);
        due("bend the last", x.does(2, false), true);
        due("find the last", x.does(2, true), true);
        due("bend the first", x.does(0, false), true);
        due("find the first", x.does(0, true), true);
        due("look(5)", x.look(5), 5);
    }

    private static void promise07TheFourteenthCard() {
        CardDrawer x = with(14);
        due("does(13, false)", x.does(13, false), true);
        due("does(14, false)", x.does(14, false), false);
        due("of(13, 4)", x.of(13, 4), 1);
    }

    private static void promise07BentIsTheOtherOne() {
        CardDrawer x = with(1);
        for (int i = 0; i < 4; i++) {
            due("does(0, false)", x.does(0, false), true);
            due("BENT", x.of(0, 4), 1 - i % 2);
            line(x, i, 0, 3, 0, 1 - i % 2);
        }
    }

    private static void promise07OneThatIsNotKeptCanBeBent() {
        CardDrawer x = with(1);
        x.toss(1);
        due("does(0, false)", x.does(0, false), true);
        due("BENT", x.of(0, 4), 1);
        due("KEPT", x.of(0, 7), 0);
    }

    private static void promise07OneThatIsKeptCanNotBeFound() {
        CardDrawer x = with(1);
        x.set(2, 0, 50);
        due("KEPT", x.does(0, true), false);
        due("WORN stays", x.of(0, 5), 50);
        due("no line", x.look(6), 0);
        x.toss(1);
        due("thrown", x.does(0, true), true);
        due("KEPT again", x.does(0, true), false);
        due("look(6)", x.look(6), 2);
    }

    private static void promise07FindingMakesWorn0AndNothingElse() {
        CardDrawer x = one("holds 0;");
        x.set(1, 0, 7);
        x.ring(3);
        x.does(0, false);
        x.set(2, 0, 99);
        x.toss(1);
        due("WORN of a thrown one", x.of(0, 5), 99);
        due("does(0, true)", x.does(0, true), true);
        due("WORN", x.of(0, 5), 0);
        due("YEAR", x.of(0, 3), 7);
        due("BENT", x.of(0, 4), 1);
        due("RUNG", x.of(0, 6), 1);
        due("KEPT", x.of(0, 7), 1);
        line(x, 3, 0, 4, 0, 0);
    }

    private static void promise07CrumbledOneCanBeFound() {
        CardDrawer x = one("dust 99;");
        x.years(1);
        due("crumbled", x.of(0, 7), 0);
        due("WORN", x.of(0, 5), 99);
        due("does(0, true)", x.does(0, true), true);
        due("WORN", x.of(0, 5), 0);
        line(x, 2, 1, 4, 0, 0);
    }

    // ---- 8: years

    private static void promise08From1To30() {
        CardDrawer x = new CardDrawer();
        for (int n : new int[] {0, 31, -1, MIN, MAX}) {
            due("years(" + n + ")", x.years(n), NONE);
        }
        due("look(1)", x.look(1), 0);
        due("look(6)", x.look(6), 0);
        due("look(7)", x.look(7), 0);
        due("look(15)", x.look(15), 0);
        due("years(1)", x.years(1), 0);
        due("look(1)", x.look(1), 1);
        due("years(30)", x.years(30), 0);
        due("look(1)", x.look(1), 31);
        due("look(4)", x.look(4), 31);
    }

    private static void promise08NowWouldBeAbove99ByOne() {
        CardDrawer x = new CardDrawer();
        x.set(0, 0, 98);
        due("years(2) at 98", x.years(2), NONE);
        due("nothing is done", x.look(1), 98);
        due("no line", x.look(6), 0);
        due("no DRAW", x.look(7), 0);
        due("years(1) at 98", x.years(1), 0);
        due("look(1)", x.look(1), 99);
        due("years(1) at 99", x.years(1), NONE);
        due("look(1)", x.look(1), 99);
        due("look(4)", x.look(4), 1);
    }

    private static void promise08NowWouldBeAbove99ByThirty() {
        CardDrawer x = new CardDrawer();
        x.set(0, 0, 70);
        due("years(30) at 70", x.years(30), NONE);
        due("look(4)", x.look(4), 0);
        x.set(0, 0, 69);
        due("years(30) at 69", x.years(30), 0);
        due("look(1)", x.look(1), 99);
        due("look(4)", x.look(4), 30);
    }

    private static void used(String law, int thousandth, int used) {
        CardDrawer x = one(law + "dust 0;");
        x.state(Draws.beforeTradeAndThousandth(2, thousandth));
        due(law + " a draw of " + thousandth, x.years(1), used);
        due("USED", x.look(2), used);
        due("MISSED", x.look(3), 1 - used);
        due("LACKED", x.look(4), 0);
        due("RUNG", x.of(0, 6), 1);
        due("YEAR stays", x.of(0, 3), 0);
        due("WORN stays", x.of(0, 5), 0);
        due("book what", x.book(0, 1), 6 - used);
        due("book which", x.book(0, 2), 0);
    }

    private static void promise08DrawBelowHoldsIsUsed() {
        used("holds 500;", 499, 1);
        used("holds 500;", 500, 0);
        used("holds 0;", 0, 0);
        used("holds 1;", 0, 1);
        used("holds 1;", 1, 0);
        used("holds 999;", 998, 1);
        used("holds 999;", 999, 0);
        used("holds 1000;", 999, 1);
    }

    private static void promise08WithoutACardOfTheTradeLacked() {
        CardDrawer x = one("holds 1000; dust 0;");
        for (int trade = 0; trade < 6; trade++) {
            int state = Draws.beforeTrade(trade);
            x.state(state);
            due("years(1)", x.years(1), trade == 2 ? 1 : 0);
            due("book what", x.book(trade, 1), trade == 2 ? 5 : 7);
            due("book which", x.book(trade, 2), trade == 2 ? 0 : trade);
            due("book how much", x.book(trade, 3), trade == 2 ? 1000 : 0);
            due("STATE", x.look(7), trade == 2 ? Draws.next(Draws.next(state)) : Draws.next(state));
        }
        due("USED", x.look(2), 1);
        due("MISSED", x.look(3), 0);
        due("LACKED", x.look(4), 5);
    }

    private static void promise08ThrownCardOfTheTradeLacks() {
        CardDrawer x = one("holds 1000;");
        x.toss(1);
        x.state(Draws.beforeTrade(2));
        due("years(1)", x.years(1), 0);
        line(x, 1, 0, 7, 2, 0);
        due("LACKED", x.look(4), 1);
        due("RUNG", x.of(0, 6), 0);
    }

    private static void promise08OfSeveralTheLeastIsRung() {
        CardDrawer x = new CardDrawer();
        x.card(0, 0, 2, 0);
        x.card(1, 5, 2, 0);
        x.card(2, 5, 2, 0);
        x.card(3, 7, 1, 0);
        Due.taken(x, 0, "holds 600+firm;", 1);
        x.state(Draws.beforeTradeAndThousandth(2, 604));
        due("years(1)", x.years(1), 1);
        line(x, 0, 0, 5, 1, 605);
    }

    private static void promise08HoldsIsAskedAheadOfRung() {
        CardDrawer x = one("holds 1000 when rung=0; holds 0; dust 0;");
        x.state(Draws.beforeTradeAndThousandth(2, 999));
        due("years(1)", x.years(1), 1);
        x.state(Draws.beforeTradeAndThousandth(2, 0));
        due("years(1)", x.years(1), 0);
    }

    private static void crumbles(int worn, int dust, int then, int kept) {
        CardDrawer x = one("dust " + dust + ";");
        x.set(2, 0, worn);
        x.set(0, 0, 3);
        x.state(Draws.beforeTrade(0));
        x.years(1);
        due("WORN from " + worn + " by " + dust, x.of(0, 5), then);
        due("KEPT", x.of(0, 7), kept);
        due("look(6)", x.look(6), 2 - kept);
        if (kept == 0) {
            line(x, 1, 3, 8, 0, worn);
        }
    }

    private static void promise08CrumblesAt99() {
        crumbles(0, 98, 98, 1);
        crumbles(0, 99, 99, 0);
        crumbles(90, 8, 98, 1);
        crumbles(90, 9, 99, 0);
        crumbles(90, 10, 99, 0);
        crumbles(98, 0, 98, 1);
        crumbles(98, 1, 99, 0);
        crumbles(98, 99, 99, 0);
        crumbles(99, 0, 99, 0);
        crumbles(99, 99, 99, 0);
    }

    private static void promise08ThrownOnesDoNotCrumble() {
        CardDrawer x = one("dust 99;");
        x.toss(1);
        x.years(2);
        due("WORN", x.of(0, 5), 0);
        due("lines: thrown, and two of trades", x.look(6), 3);
    }

    private static void promise08DustIsAskedAtItsTurnBehindTheTrade() {
        CardDrawer x = one("holds 1000; dust rung*99;");
        x.state(Draws.beforeTrade(2));
        x.years(1);
        due("it was rung in this year", x.of(0, 7), 0);
        line(x, 1, 0, 8, 0, 0);
    }

    private static void promise08DustIsOfTheYearThatIs() {
        CardDrawer x = with(1);
        x.set(0, 0, 8);
        x.years(1);
        due("age by 9 at age 8", x.of(0, 5), 0);
        x.years(1);
        due("age by 9 at age 9", x.of(0, 5), 1);
    }

    private static void promise08CardsCrumbleCardByCard() {
        CardDrawer x = with(3);
        Due.taken(x, 0, "dust 99 when not person=1; dust 0;", 2);
        x.years(1);
        line(x, 1, 0, 8, 0, 0);
        line(x, 2, 0, 8, 2, 0);
        due("look(5)", x.look(5), 2);
    }

    private static void promise08AnsweredIsNotUsed() {
        CardDrawer x = one("holds 1000;");
        Due.taken(x, 3, "in 0 ring 3;", 1);
        x.state(Draws.before(Draws.beforeTrade(0)));
        due("years(1)", x.years(1), 0);
        line(x, 0, 0, 0, 0, 1000);
        line(x, 1, 0, 7, 0, 0);
        due("USED", x.look(2), 0);
    }

    private static void promise08PlanIsForItsYearAlone() {
        CardDrawer x = with(2);
        Due.taken(x, 3, "in 4 bend 0;in 5 bend 1;in 6 bend 0;", 3);
        x.set(0, 0, 3);
        x.years(1);
        due("not ahead of it", x.of(0, 4), 0);
        x.years(1);
        due("in it", x.of(0, 4), 1);
        due("not the next one's", x.of(1, 4), 0);
        x.years(1);
        due("not behind it", x.of(0, 4), 1);
        due("the next one's", x.of(1, 4), 1);
        x.years(1);
        due("the third one's", x.of(0, 4), 0);
    }

    private static void promise08PlanForTheFirstAndTheLastYearThatCanGo() {
        CardDrawer x = with(2);
        Due.taken(x, 3, "in 0 bend 0;in 98 bend 1;in 99 bend 0;", 3);
        x.years(1);
        line(x, 0, 0, 3, 0, 1);
        x.set(0, 0, 98);
        x.years(1);
        due("BENT of 1", x.of(1, 4), 1);
        due("99 does not go by", x.of(0, 4), 1);
    }

    private static void promise08PlannedRingOfNobodyIsNoDraw() {
        CardDrawer x = one("holds 1000; dust 0;");
        Due.taken(x, 3, "in 0 ring 4;in 0 throw 1;in 0 ring 3;", 3);
        x.state(Draws.beforeTrade(1));
        due("years(1)", x.years(1), 0);
        line(x, 0, 0, 2, 0, 99);
        line(x, 1, 0, 7, 1, 0);
        due("look(6)", x.look(6), 2);
        due("RUNG", x.of(0, 6), 0);
    }

    private static void promise08PlannedFindingOfAKeptOneIsNotDone() {
        CardDrawer x = with(1);
        x.set(2, 0, 40);
        Due.taken(x, 3, "in 0 find 0;in 0 throw 1;in 0 find 0;in 0 find 0;", 4);
        x.years(1);
        line(x, 0, 0, 2, 0, 99);
        line(x, 1, 0, 4, 0, 0);
        due("WORN", x.of(0, 5), 0);
        due("no second finding: the trade is next", x.book(2, 1) >= 5 && x.book(2, 1) <= 7, true);
        due("look(6)", x.look(6), 3);
    }

    private static void promise08PlannedThrowingWhileThereIsOne() {
        CardDrawer x = with(2);
        Due.taken(x, 3, "in 0 throw 14;in 0 throw 1;", 2);
        x.years(1);
        line(x, 0, 0, 2, 0, 99);
        line(x, 1, 0, 2, 1, 99);
        due("the trade is lacked", x.book(2, 1), 7);
        due("look(6)", x.look(6), 3);
    }

    private static void promise08PlannedBendingOfAThrownOne() {
        CardDrawer x = with(1);
        Due.taken(x, 3, "in 0 throw 1;in 0 bend 0;", 2);
        x.years(1);
        line(x, 1, 0, 3, 0, 1);
        due("BENT", x.of(0, 4), 1);
    }

    private static void promise08PlanGoesLineByLine() {
        CardDrawer x = with(2);
        Due.taken(x, 0, "holds 1000; dust 0;", 2);
        Due.taken(x, 3, "in 0 ring 1;in 0 bend 1;in 0 throw 1;in 0 find 0;in 0 bend 1;", 5);
        x.years(1);
        line(x, 0, 0, 0, 1, 1000);
        line(x, 1, 0, 3, 1, 1);
        line(x, 2, 0, 2, 0, 99);
        line(x, 3, 0, 4, 0, 0);
        line(x, 4, 0, 3, 1, 0);
    }

    private static void promise08HowOftenOfTheseYearsAlone() {
        CardDrawer x = one("holds 1000; dust 0;");
        x.state(Draws.beforeTrade(2));
        due("years(1)", x.years(1), 1);
        x.state(Draws.beforeTrade(3));
        due("years(1)", x.years(1), 0);
        due("USED", x.look(2), 1);
    }
}
