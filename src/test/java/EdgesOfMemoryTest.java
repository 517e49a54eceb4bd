/** The edges that the document names for THE BOOK, UNDO, THE IMAGE and look: promises 16, 35 to 37. */
public final class EdgesOfMemoryTest {
    private static final int NONE = CardDrawer.NONE;
    private static final int MIN = Integer.MIN_VALUE;
    private static final int MAX = Integer.MAX_VALUE;

    private EdgesOfMemoryTest() {
    }

    public static void main(String[] args) throws IllegalAccessException {
        Each.run(EdgesOfMemoryTest.class);
    }

    private static void due(String call, long got, long want) {
        Due.due(call, got, want);
    }

    private static void due(String call, boolean got, boolean want) {
        Due.due(call, got, want);
    }

    /** So many cards: person, firm and trade go round, each got in year 0. */
    private static CardDrawer with(int cards) {
        CardDrawer x = new CardDrawer();
        for (int i = 0; i < cards; i++) {
            x.card(i % 12, i % 8, i % 6, 0);
        }
        return x;
    }

    private static void bend(CardDrawer x, int times) {
        for (int i = 0; i < times; i++) {
            x.does(0, false);
        }
    }

    private static void line(CardDrawer x, int i, int now, int what, int which, int howMuch) {
        due("book(" + i + ", 0)", x.book(i, 0), now);
        due("book(" + i + ", 1)", x.book(i, 1), what);
        due("book(" + i + ", 2)", x.book(i, 2), which);
        due("book(" + i + ", 3)", x.book(i, 3), howMuch);
    }

    // ---- 1: used for 512 calls

    private static void promise01TheFiveHundredAndTwelfthCall() {
        CardDrawer x = with(1);
        bend(x, 508);
        due("of(0, 4) behind 508 bendings", x.of(0, 4), 0);
        due("the 511th call", x.does(0, false), true);
        due("the 512th call", x.of(0, 4), 1);
    }

    // ---- 16: book

    private static void promise16LinesThatThereAreNot() {
        CardDrawer x = with(1);
        due("book(0, 0) of none", x.book(0, 0), NONE);
        bend(x, 3);
        for (int i : new int[] {-1, 3, 149, 150, MIN, MAX}) {
            line(x, i, NONE, NONE, NONE, NONE);
        }
        line(x, 0, 0, 3, 0, 1);
        line(x, 2, 0, 3, 0, 1);
    }

    private static void promise16AnotherWhat() {
        CardDrawer x = with(1);
        bend(x, 2);
        for (int what : new int[] {-1, 4, MIN, MAX}) {
            due("book(0, " + what + ")", x.book(0, what), NONE);
            due("book(1, " + what + ")", x.book(1, what), NONE);
        }
    }

    private static void promise16AHundredAndFiftyLines() {
        CardDrawer x = with(2);
        bend(x, 149);
        due("look(6)", x.look(6), 149);
        due("book(149, 0)", x.book(149, 0), NONE);
        x.does(1, false);
        due("look(6)", x.look(6), 150);
        line(x, 149, 0, 3, 1, 1);
    }

    private static void promise16NoMoreThen() {
        CardDrawer x = with(2);
        bend(x, 150);
        due("a deed is done all the same", x.does(1, false), true);
        due("BENT", x.of(1, 4), 1);
        due("look(6)", x.look(6), 150);
        line(x, 149, 0, 3, 0, 0);
        line(x, 150, NONE, NONE, NONE, NONE);
        due("toss(14)", x.toss(14), 2);
        due("years(1)", x.years(1), 0);
        due("LACKED", x.look(4), 1);
        due("look(6)", x.look(6), 150);
    }

    private static void promise16FullAmidAThrowing() {
        CardDrawer x = with(3);
        bend(x, 148);
        due("toss(3)", x.toss(3), 3);
        due("look(6)", x.look(6), 150);
        line(x, 148, 0, 2, 0, 99);
        line(x, 149, 0, 2, 1, 99);
        due("look(5)", x.look(5), 0);
    }

    private static void promise16FullAmidAYear() {
        CardDrawer x = with(3);
        Due.taken(x, 0, "dust 99;", 1);
        bend(x, 148);
        x.years(1);
        due("look(6)", x.look(6), 150);
        due("the trade", x.book(148, 1) >= 5 && x.book(148, 1) <= 7, true);
        line(x, 149, 0, 8, 0, 0);
        due("look(5)", x.look(5), 0);
    }

    private static void promise16EachKindOfLine() {
        CardDrawer x = new CardDrawer();
        x.card(3, 0, 2, 40);
        x.card(4, 0, 1, 41);
        x.set(0, 0, 44);
        Due.taken(x, 0, "holds 1000 when person=3; holds 0; worth 7+person;", 3);
        x.ring(3);
        line(x, 0, 44, 0, 0, 1000);
        x.ring(4);
        line(x, 1, 44, 1, 1, 0);
        x.toss(1);
        line(x, 2, 44, 2, 0, 10);
        x.does(1, false);
        line(x, 3, 44, 3, 1, 1);
        x.does(0, true);
        line(x, 4, 44, 4, 0, 0);
        x.state(Draws.beforeTrade(2));
        x.years(1);
        line(x, 5, 44, 5, 0, 1000);
        x.state(Draws.beforeTrade(1));
        x.years(1);
        line(x, 6, 45, 6, 1, 0);
        x.state(Draws.beforeTrade(5));
        x.set(2, 1, 99);
        x.years(1);
        line(x, 7, 46, 7, 5, 0);
        line(x, 8, 46, 8, 1, 99);
        due("look(6)", x.look(6), 9);
    }

    // ---- 35: undo

    private static void promise35Nothing() {
        CardDrawer x = with(1);
        due("undo()", x.undo(), false);
        due("look(0)", x.look(0), 1);
        bend(x, 1);
        due("undo()", x.undo(), true);
        due("undo()", x.undo(), false);
    }

    private static void promise35SixAreKept() {
        CardDrawer x = with(7);
        for (int card = 0; card < 5; card++) {
            x.does(card, false);
        }
        due("five", x.look(15), 5);
        x.does(5, false);
        due("six", x.look(15), 6);
        x.does(6, false);
        due("no seventh", x.look(15), 6);
        for (int card = 6; card >= 1; card--) {
            due("BENT", x.of(card, 4), 1);
            due("undo()", x.undo(), true);
            due("BENT no more", x.of(card, 4), 0);
            due("look(15)", x.look(15), card - 1);
            due("look(6)", x.look(6), card);
        }
        due("the first stays", x.undo(), false);
        due("BENT", x.of(0, 4), 1);
    }

    private static void promise35SixOfThirtyYears() {
        CardDrawer x = new CardDrawer();
        x.years(30);
        due("look(15)", x.look(15), 6);
        for (int now = 29; now >= 24; now--) {
            due("undo()", x.undo(), true);
            due("NOW", x.look(1), now);
            due("LACKED", x.look(4), now);
        }
        due("undo()", x.undo(), false);
        due("NOW", x.look(1), 24);
    }

    private static void promise35SixAndSevenYears() {
        CardDrawer x = new CardDrawer();
        x.years(6);
        for (int i = 0; i < 6; i++) {
            due("undo()", x.undo(), true);
        }
        due("NOW", x.look(1), 0);
        due("undo()", x.undo(), false);
        x.years(7);
        for (int i = 0; i < 6; i++) {
            due("undo()", x.undo(), true);
        }
        due("NOW", x.look(1), 1);
        due("undo()", x.undo(), false);
    }

    private static void promise35SixAgainBehindAnUndoing() {
        CardDrawer x = with(9);
        for (int card = 0; card < 8; card++) {
            x.does(card, false);
        }
        due("undo()", x.undo(), true);
        due("undo()", x.undo(), true);
        due("look(15)", x.look(15), 4);
        x.does(8, false);
        x.toss(1);
        due("look(15)", x.look(15), 6);
        for (int i = 0; i < 6; i++) {
            due("undo()", x.undo(), true);
        }
        due("undo()", x.undo(), false);
        for (int card = 0; card < 9; card++) {
            due("BENT of " + card, x.of(card, 4), card < 2 ? 1 : 0);
        }
    }

    private static void promise35StateAndBookGoBack() {
        CardDrawer x = with(1);
        Due.taken(x, 0, "holds 0; dust 99;", 2);
        x.state(7);
        x.years(1);
        due("undo()", x.undo(), true);
        due("STATE", x.look(7), 7);
        due("look(6)", x.look(6), 0);
        due("book(0, 0)", x.book(0, 0), NONE);
        due("NOW", x.look(1), 0);
        due("KEPT", x.look(5), 1);
        due("WORN", x.of(0, 5), 0);
        due("counts", x.look(2) + x.look(3) + x.look(4), 0);
        x.ring(0);
        due("undo()", x.undo(), true);
        due("STATE", x.look(7), 7);
        due("RUNG", x.of(0, 6), 0);
        due("WORN", x.of(0, 5), 0);
        due("look(6)", x.look(6), 0);
    }

    private static void promise35OneThrowingIsOne() {
        CardDrawer x = with(5);
        x.toss(3);
        due("look(15)", x.look(15), 1);
        due("undo()", x.undo(), true);
        due("look(5)", x.look(5), 31);
        due("look(6)", x.look(6), 0);
    }

    private static void promise35ThrowingOfNoneCanBeUndone() {
        CardDrawer x = new CardDrawer();
        due("toss(3)", x.toss(3), 0);
        due("look(15)", x.look(15), 1);
        due("undo()", x.undo(), true);
        due("undo()", x.undo(), false);
    }

    private static void promise35FindingAndAnsweringGoBack() {
        CardDrawer x = with(1);
        Due.taken(x, 0, "holds 1000;", 1);
        x.set(0, 0, 5);
        x.set(2, 0, 30);
        x.toss(1);
        x.does(0, true);
        x.ring(0);
        due("YEAR", x.of(0, 3), 5);
        due("undo()", x.undo(), true);
        due("YEAR", x.of(0, 3), 0);
        due("undo()", x.undo(), true);
        due("KEPT", x.of(0, 7), 0);
        due("WORN", x.of(0, 5), 30);
        due("undo()", x.undo(), true);
        due("KEPT", x.of(0, 7), 1);
    }

    private static void promise35FromAFullBook() {
        CardDrawer x = with(1);
        bend(x, 152);
        due("the 152nd", x.undo(), true);
        due("BENT", x.of(0, 4), 1);
        due("look(6)", x.look(6), 150);
        due("the 151st", x.undo(), true);
        due("look(6)", x.look(6), 150);
        due("the 150th", x.undo(), true);
        due("look(6)", x.look(6), 149);
        due("book(149, 0)", x.book(149, 0), NONE);
        x.toss(1);
        line(x, 149, 0, 2, 0, 99);
    }

    /** A drawer in which one thing can be undone. */
    private static CardDrawer deed() {
        CardDrawer x = with(3);
        x.image(true);
        x.does(0, false);
        return x;
    }

    private static void promise35StateForgets() {
        CardDrawer x = deed();
        x.state(0);
        due("look(15)", x.look(15), 0);
        due("undo()", x.undo(), false);
        due("BENT", x.of(0, 4), 1);
    }

    private static void promise35CardForgets() {
        CardDrawer x = deed();
        x.card(0, 0, 0, 0);
        due("look(15)", x.look(15), 0);
        due("undo()", x.undo(), false);
    }

    private static void promise35SetForgets() {
        for (int what = 0; what <= 2; what++) {
            CardDrawer x = deed();
            x.set(what, 0, 0);
            due("look(15)", x.look(15), 0);
            due("undo()", x.undo(), false);
        }
    }

    private static void promise35APlanForgets() {
        CardDrawer x = deed();
        Due.taken(x, 3, "in 0 throw 1;", 1);
        due("look(15)", x.look(15), 0);
        CardDrawer y = deed();
        due("an empty one", y.text(3), 0);
        due("look(15)", y.look(15), 0);
    }

    private static void promise35GoingBackToTheImageForgets() {
        CardDrawer x = deed();
        x.image(false);
        due("look(15)", x.look(15), 0);
        due("undo()", x.undo(), false);
    }

    private static void promise35TextsButAPlanDoNotForget() {
        CardDrawer x = deed();
        Due.taken(x, 0, "dust 1;", 1);
        Due.taken(x, 1, "person 1 by 2;", 1);
        Due.taken(x, 2, "firm 1 from 2 to 3;", 1);
        due("look(15)", x.look(15), 1);
        due("undo()", x.undo(), true);
        due("BENT", x.of(0, 4), 0);
        due("they stay told", x.look(8) + x.look(9) + x.look(10), 3);
    }

    private static void promise35AheadAskedAndNotedDoNotForget() {
        CardDrawer x = deed();
        x.ahead(0, 1);
        x.asks(0, 1);
        x.note(0, 1, true);
        due("look(15)", x.look(15), 1);
        due("undo()", x.undo(), true);
        due("they stay told", x.look(12) + x.look(13) + x.look(14), 3);
        bend(x, 1);
        x.ahead(NONE, 0);
        x.asks(NONE, 0);
        x.note(NONE, 0, true);
        due("look(15)", x.look(15), 1);
    }

    private static void promise35TakingTheImageDoesNotForget() {
        CardDrawer x = deed();
        due("image(true)", x.image(true), true);
        due("look(15)", x.look(15), 1);
        due("undo()", x.undo(), true);
    }

    private static void promise35TheTapeDoesNotForget() {
        CardDrawer x = deed();
        x.feed(0, 0, 0, 0, 0);
        x.end(0);
        due("look(15)", x.look(15), 1);
    }

    private static void promise35WhatIsRefusedDoesNotForget() {
        CardDrawer x = deed();
        x.card(12, 0, 0, 0);
        x.set(0, 0, 100);
        x.set(1, 3, 0);
        x.set(3, 0, 0);
        x.ring(11);
        x.toss(0);
        x.does(3, false);
        x.does(0, true);
        x.years(31);
        x.text(4);
        Due.refused(x, 3, "in 0 throw 0;", 2, 11);
        due("look(15)", x.look(15), 1);
        due("undo()", x.undo(), true);
        due("BENT", x.of(0, 4), 0);
    }

    private static void promise35WhatIsThoughtDoesNotForget() {
        CardDrawer x = deed();
        x.goes(60, 0);
        x.keeps(14, 0);
        x.dated(0, 0);
        x.tells(0);
        x.game(0);
        x.uses(0);
        x.whose(1);
        due("look(15)", x.look(15), 1);
        due("undo()", x.undo(), true);
    }

    // ---- 36: image

    private static void promise36ThereIsNone() {
        CardDrawer x = with(2);
        bend(x, 1);
        due("image(false)", x.image(false), false);
        due("nothing changes", x.of(0, 4), 1);
        due("nothing is forgotten", x.look(15), 1);
    }

    private static void promise36MoreThanOnce() {
        CardDrawer x = with(2);
        due("image(true)", x.image(true), true);
        for (int i = 0; i < 3; i++) {
            x.toss(2);
            x.years(1);
            due("image(false)", x.image(false), true);
            due("look(5)", x.look(5), 3);
            due("NOW", x.look(1), 0);
            due("look(6)", x.look(6), 0);
            due("STATE", x.look(7), 0);
            due("look(15)", x.look(15), 0);
        }
        due("at once again", x.image(false), true);
    }

    private static void promise36OfAnEmptyDrawer() {
        CardDrawer x = new CardDrawer();
        due("image(true)", x.image(true), true);
        x.card(1, 1, 1, 1);
        x.set(0, 0, 50);
        Due.taken(x, 1, "person 1 by 2;", 1);
        Due.taken(x, 2, "firm 1 from 2 to 3;", 1);
        due("image(false)", x.image(false), true);
        for (int what = 0; what <= 15; what++) {
            due("look(" + what + ")", x.look(what), 0);
        }
        due("of(0, 0)", x.of(0, 0), NONE);
        due("met(1)", x.met(1), NONE);
        due("called(1, 1)", x.called(1, 1), 99);
    }

    private static void promise36TheLatestTakenOne() {
        CardDrawer x = with(1);
        x.image(true);
        x.card(5, 5, 5, 5);
        x.image(true);
        x.card(6, 6, 5, 6);
        due("image(false)", x.image(false), true);
        due("look(0)", x.look(0), 2);
    }

    private static void promise36AllThatWasTold() {
        CardDrawer x = with(3);
        Due.taken(x, 0, "dust 5;worth 6;", 2);
        Due.taken(x, 1, "person 1 by 2;", 1);
        Due.taken(x, 2, "firm 1 from 2 to 3;", 1);
        Due.taken(x, 3, "in 5 bend 2;in 6 throw 1;in 7 ring 1;", 3);
        x.ahead(0, 1);
        x.asks(0, 1);
        x.asks(1, 1);
        x.note(2, 1, true);
        x.years(4);
        bend(x, 1);
        x.state(-77);
        int[] look = new int[16];
        for (int what = 0; what < 16; what++) {
            look[what] = x.look(what);
        }
        x.image(true);
        for (int k = 0; k < 4; k++) {
            x.text(k);
        }
        x.ahead(NONE, 0);
        x.asks(NONE, 0);
        x.note(NONE, 0, true);
        x.card(0, 0, 0, 0);
        x.toss(4);
        x.years(20);
        due("image(false)", x.image(false), true);
        for (int what = 0; what < 16; what++) {
            due("look(" + what + ")", x.look(what), look[what]);
        }
        due("THE LAW", x.of(0, 10), 6);
        due("MET", x.met(1), 2);
        due("CALLED", x.called(1, 0), 2);
        due("AHEAD", x.dated(0, 1), 3);
        due("BENT", x.of(0, 4), 1);
        due("the book", x.book(look[6] - 1, 1), 3);
        x.years(2);
        due("A PLAN", x.of(2, 4), 1);
    }

    private static void promise36TextsThatWereToldAnew() {
        CardDrawer x = with(2);
        Due.taken(x, 0, "worth 5*6+7 when person=1;worth 8;dust 9;", 3);
        Due.taken(x, 1, "person 0 by 3;person 1 by 2;", 2);
        Due.taken(x, 2, "firm 0 from 4 to 5;firm 1 from 2 to 3;", 2);
        Due.taken(x, 3, "in 0 bend 1;in 0 throw 1;", 2);
        x.image(true);
        Due.taken(x, 0, "holds 1+2+3+4+5+6+7+8+9;worth 44;", 2);
        Due.taken(x, 1, "person 2 by 1;", 1);
        Due.taken(x, 2, "firm 2 from 7 to 8;", 1);
        Due.taken(x, 3, "in 0 throw 2;", 1);
        x.image(false);
        due("worth of 1", x.of(1, 10), 37);
        due("worth of 0", x.of(0, 10), 8);
        due("dust", x.of(0, 9), 9);
        due("holds", x.of(0, 8), 900);
        due("met(0)", x.met(0), 3);
        due("met(2)", x.met(2), NONE);
        due("called(0, 1)", x.called(0, 1), 5);
        due("called(2, 1)", x.called(2, 1), 99);
        x.years(1);
        line(x, 0, 0, 3, 1, 1);
        line(x, 1, 0, 2, 0, 8);
        due("look(5)", x.look(5), 2);
    }

    private static void promise36TheTapeAndFaultStay() {
        CardDrawer x = with(1);
        Due.write(x, "dust 1/0;");
        x.image(true);
        due("text(0)", x.text(0), NONE);
        Due.write(x, "dust 42;");
        due("image(false)", x.image(false), true);
        due("fault(0)", x.fault(0), 2);
        due("fault(1)", x.fault(1), 7);
        due("end(9)", x.end(9), false);
        due("text(0)", x.text(0), 1);
        due("of(0, 9)", x.of(0, 9), 42);
    }

    private static void promise36NothingCanBeUndoneThen() {
        CardDrawer x = with(1);
        bend(x, 3);
        x.image(true);
        due("taken", x.look(15), 3);
        due("image(false)", x.image(false), true);
        due("gone back", x.look(15), 0);
        due("undo()", x.undo(), false);
        due("BENT", x.of(0, 4), 1);
    }

    private static void promise36TheImageItselfStaysAsItWas() {
        CardDrawer x = with(1);
        x.image(true);
        x.image(false);
        bend(x, 1);
        x.undo();
        x.set(2, 0, 9);
        x.years(1);
        x.image(false);
        due("WORN", x.of(0, 5), 0);
        due("RUNG", x.of(0, 6), 0);
        due("look(6)", x.look(6), 0);
    }

    private static void promise36OfAFullBook() {
        CardDrawer x = with(1);
        bend(x, 150);
        x.image(true);
        x.toss(1);
        x.image(false);
        due("look(6)", x.look(6), 150);
        line(x, 149, 0, 3, 0, 0);
    }

    private static void promise36AllGoesOnFromIt() {
        CardDrawer x = with(6);
        x.state(12345);
        x.image(true);
        int used = x.years(30);
        int state = x.look(7);
        int kept = x.look(5);
        x.image(false);
        due("the same years", x.years(30), used);
        due("the same STATE", x.look(7), state);
        due("the same are KEPT", x.look(5), kept);
    }

    // ---- 37: look

    private static void promise37AnotherWhat() {
        CardDrawer x = with(2);
        for (int what : new int[] {-1, 16, MIN, MAX}) {
            due("look(" + what + ")", x.look(what), NONE);
        }
        due("look(0)", x.look(0), 2);
        bend(x, 1);
        due("look(15)", x.look(15), 1);
    }

    private static void promise37StateAsItIs() {
        CardDrawer x = new CardDrawer();
        for (int v : new int[] {MIN, MAX, -1, -2, 0}) {
            x.state(v);
            due("look(7)", x.look(7), v);
        }
    }

    private static void promise37KeptFromNoneToAll() {
        CardDrawer x = new CardDrawer();
        due("none", x.look(5), 0);
        for (int i = 0; i < 14; i++) {
            x.card(0, 0, 0, 0);
            due("so many", x.look(5), (1 << i + 1) - 1);
        }
        x.toss(13);
        due("the last", x.look(5), 8192);
        x.toss(1);
        due("none", x.look(5), 0);
    }

    private static void promise37EachAtItsMost() {
        CardDrawer x = with(14);
        String[] line = {"dust 1;", "person 1 by 2;", "firm 1 from 2 to 3;", "in 2 throw 14;"};
        for (int k = 0; k < 4; k++) {
            Due.taken(x, k, line[k].repeat(16), 16);
        }
        for (int i = 0; i < 13; i++) {
            x.ahead(0, 1);
            x.asks(0, 0);
            x.note(0, 0, true);
        }
        bend(x, 151);
        x.state(3);
        bend(x, 7);
        int[] look = {14, 0, 0, 0, 0, 16383, 150, 3, 16, 16, 16, 16, 12, 10, 8, 6};
        for (int what = 0; what < look.length; what++) {
            due("look(" + what + ")", x.look(what), look[what]);
        }
    }
}
