/** Each promise of the document: ordinary inputs, the edges that it names, wrong inputs. */
public final class PromisesTest {
    private static final int NONE = CardDrawer.NONE;

    private PromisesTest() {
    }

    public static void main(String[] args) {
        newObject();
        state();
        card();
        set();
        ring();
        toss();
        does();
        years();
        crumbling();
        planned();
        feedAndEnd();
        text();
        fault();
        of();
        met();
        called();
        book();
        goes();
        aheadAndDated();
        hands();
        ledAndRoot();
        tells();
        hears();
        asksAndKeeps();
        sorted();
        apart();
        seconds();
        beside();
        noteAndWhose();
        uses();
        game();
        undo();
        image();
        look();
        Due.close("PromisesTest");
    }

    private static void due(String call, long got, long want) {
        Due.due(call, got, want);
    }

    private static void due(String call, boolean got, boolean want) {
        Due.due(call, got, want);
    }

    private static void newObject() {
        CardDrawer x = new CardDrawer();
        for (int what = 0; what < 16; what++) {
            due("1: look(" + what + ")", x.look(what), 0);
        }
        due("1: NONE", CardDrawer.NONE, -1);
        due("1: fault(0)", x.fault(0), 0);
        due("1: fault(1)", x.fault(1), NONE);
        due("1: end(0)", x.end(0), true);
        due("1: end(1)", x.end(1), false);
        due("1: undo()", x.undo(), false);
        due("1: image(false)", x.image(false), false);
    }

    private static void state() {
        CardDrawer x = new CardDrawer();
        due("2: state(5)", x.state(5), 0);
        due("2: state(MIN)", x.state(Integer.MIN_VALUE), 5);
        due("2: look(7)", x.look(7), Integer.MIN_VALUE);
        x.toss(1);
        due("2: state(-1)", x.state(-1), Integer.MIN_VALUE);
        due("2: state forgets what can be undone", x.look(15), 0);
        x.years(1);
        due("2: a draw from -1", x.look(7), -1664525 + 1013904223);
        due("2: the highest 24 bits", x.book(0, 2), ((-1664525 + 1013904223) >>> 8) % 6);
        x.state(-1013904223);
        x.years(1);
        int negative = -1013904223 * 1664525 + 1013904223;
        due("2: without sign", x.book(1, 2), ((negative & 0xffffffffL) >> 8) % 6);
    }

    private static void card() {
        CardDrawer x = new CardDrawer();
        due("3: card", x.card(11, 7, 5, 99), 0);
        for (int what = 0; what < 8; what++) {
            due("3: of(0, " + what + ")", x.of(0, what), new int[] {11, 7, 5, 99, 0, 0, 0, 1}[what]);
        }
        int[][] wrong = {{12, 0, 0, 0}, {0, 8, 0, 0}, {0, 0, 6, 0}, {0, 0, 0, 100}, {-1, 0, 0, 0}, {0, -1, 0, 0},
            {0, 0, -1, 0}, {0, 0, 0, -1}, {Integer.MIN_VALUE, Integer.MAX_VALUE, 0, 0}};
        x.toss(1);
        for (int[] w : wrong) {
            due("3: a card that can't be", x.card(w[0], w[1], w[2], w[3]), NONE);
        }
        due("3: nothing is forgotten by these", x.look(15), 1);
        for (int i = 1; i < 14; i++) {
            due("3: card " + i, x.card(i % 12, 0, 0, 0), i);
        }
        due("3: cards forget what can be undone", x.look(15), 0);
        due("3: a fifteenth", x.card(0, 0, 0, 0), NONE);
        due("3: look(0)", x.look(0), 14);
        due("3: look(5)", x.look(5), (1 << 14) - 2);
    }

    private static void set() {
        CardDrawer x = new CardDrawer();
        x.card(1, 1, 1, 1);
        due("4: NOW", x.set(0, -7, 99), true);
        due("4: look(1)", x.look(1), 99);
        due("4: NOW 100", x.set(0, 0, 100), false);
        due("4: NOW -1", x.set(0, 0, -1), false);
        due("4: YEAR", x.set(1, 0, 40), true);
        due("4: of(0, 3)", x.of(0, 3), 40);
        due("4: YEAR 100", x.set(1, 0, 100), false);
        due("4: YEAR of none", x.set(1, 1, 4), false);
        due("4: YEAR of -1", x.set(1, -1, 4), false);
        due("4: WORN", x.set(2, 0, 99), true);
        due("4: of(0, 5)", x.of(0, 5), 99);
        due("4: it is KEPT", x.of(0, 7), 1);
        due("4: WORN 100", x.set(2, 0, 100), false);
        due("4: WORN -1", x.set(2, 0, -1), false);
        due("4: WORN of none", x.set(2, 14, 4), false);
        due("4: another what", x.set(3, 0, 4), false);
        due("4: another what", x.set(-1, 0, 4), false);
        x.toss(1);
        due("4: false forgets nothing", x.set(0, 0, 100), false);
        due("4: look(15)", x.look(15), 1);
        due("4: of one that is thrown", x.set(2, 0, 3), true);
        due("4: look(15)", x.look(15), 0);
    }

    private static void ring() {
        CardDrawer x = new CardDrawer();
        x.card(3, 0, 0, 0);
        x.card(3, 0, 0, 0);
        x.card(4, 0, 0, 0);
        x.set(0, 0, 10);
        Due.taken(x, 0, "holds 1000-rung*1000 when person=3; holds 0;", 2);
        due("5: ring(-1)", x.ring(-1), NONE);
        due("5: ring(12)", x.ring(12), NONE);
        due("5: ring(5)", x.ring(5), NONE);
        due("5: look(15)", x.look(15), 0);
        due("5: ring(3): the least of several, asked ahead", x.ring(3), 1);
        due("5: YEAR is NOW", x.of(0, 3), 10);
        due("5: RUNG", x.of(0, 6), 1);
        due("5: the other one's YEAR", x.of(1, 3), 0);
        due("5: book", x.book(0, 3), 1000);
        due("5: one draw", x.look(7), 1013904223);
        due("5: ring(3): the one with greatest holds", x.ring(3), 1);
        due("5: RUNG of the other one", x.of(1, 6), 1);
        due("5: ring(4)", x.ring(4), 0);
        due("5: WORN", x.of(2, 5), 9);
        due("5: YEAR stays", x.of(2, 3), 0);
        due("5: book 1", x.book(2, 1), 1);
        x.set(2, 2, 95);
        due("5: ring(4)", x.ring(4), 0);
        due("5: WORN 99 at most", x.of(2, 5), 99);
        due("5: KEPT till the year is over", x.of(2, 7), 1);
        x.toss(14);
        due("5: no KEPT card", x.ring(3), NONE);
    }

    private static void toss() {
        CardDrawer x = new CardDrawer();
        x.card(0, 0, 0, 5);
        x.card(1, 0, 0, 2);
        x.card(2, 0, 0, 2);
        x.set(0, 0, 9);
        due("6: toss(0)", x.toss(0), NONE);
        due("6: toss(15)", x.toss(15), NONE);
        due("6: toss(-1)", x.toss(-1), NONE);
        due("6: look(15)", x.look(15), 0);
        due("6: toss(1)", x.toss(1), 1);
        due("6: the least of several", x.look(5), 5);
        due("6: book what", x.book(0, 1), 2);
        due("6: book which", x.book(0, 2), 1);
        due("6: book worth", x.book(0, 3), 92);
        due("6: toss(14)", x.toss(14), 2);
        due("6: book which", x.book(1, 2), 2);
        due("6: book which", x.book(2, 2), 0);
        due("6: toss(14)", x.toss(14), 0);
        due("6: look(15)", x.look(15), 3);
        due("6: look(6)", x.look(6), 3);
    }

    private static void does() {
        CardDrawer x = new CardDrawer();
        due("7: no card", x.does(0, false), false);
        due("7: no card", x.does(0, true), false);
        x.card(0, 0, 0, 5);
        due("7: no card", x.does(-1, false), false);
        due("7: KEPT can't be found", x.does(0, true), false);
        due("7: look(15)", x.look(15), 0);
        due("7: bend", x.does(0, false), true);
        due("7: BENT", x.of(0, 4), 1);
        x.set(2, 0, 50);
        x.toss(1);
        due("7: bend one that is thrown", x.does(0, false), true);
        due("7: BENT", x.of(0, 4), 0);
        due("7: book BENT then", x.book(2, 3), 0);
        due("7: find", x.does(0, true), true);
        due("7: KEPT", x.of(0, 7), 1);
        due("7: WORN 0", x.of(0, 5), 0);
        due("7: book what", x.book(3, 1), 4);
        due("7: book how much", x.book(3, 3), 0);
    }

    private static void years() {
        CardDrawer x = new CardDrawer();
        due("8: years(0)", x.years(0), NONE);
        due("8: years(31)", x.years(31), NONE);
        due("8: years(-5)", x.years(-5), NONE);
        due("8: years(MAX)", x.years(Integer.MAX_VALUE), NONE);
        x.set(0, 0, 70);
        due("8: NOW would be above 99", x.years(30), NONE);
        due("8: nothing is done", x.look(6), 0);
        due("8: till 99", x.years(29), 0);
        due("8: NOW", x.look(1), 99);
        due("8: LACKED", x.look(4), 29);
        due("8: six are kept", x.look(15), 6);
        due("8: years(1)", x.years(1), NONE);

        CardDrawer y = new CardDrawer();
        for (int trade = 0; trade < 6; trade++) {
            y.card(trade, 0, trade, 0);
        }
        Due.taken(y, 0, "holds 1000 when trade<3; holds 0; dust 0;", 3);
        int used = y.years(30);
        due("8: how often USED", used, y.look(2));
        due("8: USED and MISSED", y.look(2) + y.look(3), 30);
        due("8: something was USED", used > 5 && used < 25, true);
        int rung = 0;
        for (int card = 0; card < 6; card++) {
            rung += y.of(card, 6);
            due("8: YEAR stays", y.of(card, 3), 0);
            due("8: WORN stays", y.of(card, 5), 0);
        }
        due("8: RUNG", rung, 30);
        int again = y.years(10);
        due("8: of these years alone", again, y.look(2) - used);
        for (int i = 0; i < 40; i++) {
            due("8: what was USED holds", y.book(i, 1), y.book(i, 2) < 3 ? 5 : 6);
            due("8: holds", y.book(i, 3), y.book(i, 2) < 3 ? 1000 : 0);
        }

        CardDrawer z = new CardDrawer();
        z.card(0, 0, 5, 0);
        z.card(1, 0, 5, 0);
        z.card(2, 0, 5, 0);
        Due.taken(z, 0, "holds 700 when person>0; holds 600;", 2);
        z.years(1);
        due("8: greatest holds, the least of several", z.book(0, 2), 1);
    }

    private static void crumbling() {
        CardDrawer x = new CardDrawer();
        x.card(0, 0, 0, 0);
        x.card(0, 0, 0, 0);
        x.set(0, 0, 40);
        x.set(2, 0, 94);
        x.set(2, 1, 95);
        due("8: dust", x.of(0, 9), 4);
        Due.taken(x, 0, "holds 0;", 1);
        x.state(0);
        x.years(1);
        due("8: WORN 98", x.of(0, 5), 98);
        due("8: KEPT", x.look(5), 1);
        due("8: crumbled", x.book(1, 1), 8);
        due("8: which", x.book(1, 2), 1);
        due("8: WORN ahead", x.book(1, 3), 95);
        due("8: of the year that is over", x.book(1, 0), 40);
        Due.taken(x, 0, "dust 0;", 1);
        x.set(2, 0, 99);
        x.years(1);
        due("8: at 99 though dust is 0", x.look(5), 0);
        due("8: WORN ahead", x.book(3, 3), 99);
        x.does(0, true);
        Due.taken(x, 0, "dust 2000;", 1);
        x.years(1);
        due("8: 99 at most", x.of(0, 5), 99);
    }

    private static void planned() {
        CardDrawer x = new CardDrawer();
        x.card(2, 0, 0, 0);
        x.card(3, 0, 0, 0);
        Due.taken(x, 0, "holds 1000; dust 0; worth 10-person;", 3);
        Due.taken(x, 3, "in 1 ring 2;in 0 throw 1;in 0 find 0;in 0 bend 1;in 0 ring 3;in 0 find 1;in 0 ring 2;", 7);
        due("8: no plan is counted as undoable", x.look(15), 0);
        x.years(1);
        int[][] lines = {{2, 1, 7}, {3, 1, 1}, {4, 1, 0}, {0, 0, 1000}};
        for (int i = 0; i < lines.length; i++) {
            for (int what = 0; what < 3; what++) {
                due("8: plan, line " + i, x.book(i, what + 1), lines[i][what]);
            }
        }
        due("8: the trade comes behind", x.book(4, 1) >= 5 && x.book(4, 1) <= 7, true);
        due("8: lines of the year", x.look(6), 5);
        due("8: one YEAR to undo", x.look(15), 1);
        x.years(1);
        due("8: the next year's line", x.book(5, 1), 0);
        due("8: its NOW", x.book(5, 0), 1);
    }

    private static void feedAndEnd() {
        CardDrawer x = new CardDrawer();
        for (int i = 1; i <= 20; i++) {
            due("9: feed", x.feed(0x20202020, 0x20202020, 0x20202020, 0x20202020, 0x20202020), 20 * i);
        }
        due("9: more than 400", x.feed(0, 0, 0, 0, 0), NONE);
        due("10: end(401)", x.end(401), false);
        due("10: end(-1)", x.end(-1), false);
        due("10: end(MIN)", x.end(Integer.MIN_VALUE), false);
        due("10: end(400)", x.end(400), true);
        due("10: end(381)", x.end(381), true);
        due("9: 401 would be too many", x.feed(0, 0, 0, 0, 0), NONE);
        due("10: end(380)", x.end(380), true);
        due("9: 400", x.feed(0x20202020, 0x0a0a0a0a, 0x20202020, 0x20202020, 0x20202020), 400);
        due("9: blanks alone", x.text(0), 0);
        due("9: the tape is empty then", x.feed(0xff000000, 0, 0, 0, 0), 20);
        due("10: end(1)", x.end(1), true);
        due("9: a byte of 255", x.text(0), NONE);
        due("9: its place", x.fault(1), 0);
        due("9: highest first", x.feed('d' << 24 | 'u' << 16 | 's' << 8 | 't', ' ' << 24 | '7' << 16 | ';' << 8 | ' ', 0, 0, 0), 20);
        due("10: end(7)", x.end(7), true);
        due("9: text(0)", x.text(0), 1);
        x.toss(1);
        x.feed(1, 2, 3, 4, 5);
        x.end(2);
        due("9: the tape forgets nothing", x.look(15), 1);
    }

    private static void text() {
        CardDrawer x = new CardDrawer();
        x.card(1, 1, 1, 1);
        Due.taken(x, 0, "holds 5; dust 6;", 2);
        due("11: look(8)", x.look(8), 2);
        Due.refused(x, 0, "holds 7", 1, 7);
        due("11: it stays as it was", x.of(0, 8), 5);
        due("11: look(8)", x.look(8), 2);
        Due.taken(x, 1, "person 1 by 2;", 1);
        Due.taken(x, 2, "firm 1 from 2 to 3;", 1);
        Due.taken(x, 3, "in 1 bend 0;", 1);
        due("11: the law is as it was", x.look(8), 2);
        due("11: look(9)", x.look(9), 1);
        due("11: look(10)", x.look(10), 1);
        due("11: look(11)", x.look(11), 1);
        due("11: text(4)", x.text(4), NONE);
        due("11: text(-1)", x.text(-1), NONE);
        Due.refused(x, 3, "in 1 bend 1;", 2, 10);
        due("11: look(11)", x.look(11), 1);
        x.toss(1);
        Due.taken(x, 0, "", 0);
        Due.taken(x, 1, "", 0);
        Due.taken(x, 2, "", 0);
        due("11: these forget nothing", x.look(15), 1);
        Due.refused(x, 3, "in", 1, 2);
        due("11: a plan with a fault forgets nothing", x.look(15), 1);
        Due.taken(x, 3, "", 0);
        due("11: a plan does", x.look(15), 0);
        due("11: look(8)", x.look(8) + x.look(9) + x.look(10) + x.look(11), 0);
    }

    private static void fault() {
        CardDrawer x = new CardDrawer();
        Due.refused(x, 0, "dust", 1, 4);
        due("12: fault(2)", x.fault(2), NONE);
        due("12: fault(-1)", x.fault(-1), NONE);
        due("12: it stays till the next text", x.fault(0), 1);
        x.text(9);
        due("12: no such text", x.fault(0), 0);
        due("12: no such text", x.fault(1), NONE);
        Due.refused(x, 0, "dust", 1, 4);
        Due.taken(x, 0, "dust 1;", 1);
    }

    private static void of() {
        CardDrawer x = new CardDrawer();
        x.card(11, 7, 5, 10);
        due("13: of(1, 0)", x.of(1, 0), NONE);
        due("13: of(-1, 0)", x.of(-1, 0), NONE);
        due("13: of(0, -1)", x.of(0, -1), NONE);
        due("13: of(0, 11)", x.of(0, 11), NONE);
        due("13: age 0 at least: holds", x.of(0, 8), 900);
        due("13: worth", x.of(0, 10), 99);
        x.set(0, 0, 99);
        due("13: holds held to 0", x.of(0, 8), 0);
        due("13: dust by 9", x.of(0, 9), 9);
        due("13: worth", x.of(0, 10), 10);
        Due.taken(x, 0, "holds 9999; dust 100; worth 1000;", 3);
        due("13: holds at most", x.of(0, 8), 1000);
        due("13: dust at most", x.of(0, 9), 99);
        due("13: worth at most", x.of(0, 10), 999);
        Due.taken(x, 0, "holds 0-1; dust 0-5/2; worth 9999*9999*9999;", 3);
        due("13: holds at least", x.of(0, 8), 0);
        due("13: dust at least", x.of(0, 9), 0);
        int wrapped = 9999 * 9999 * 9999;
        due("13: ints wrap", x.of(0, 10), Math.max(0, Math.min(999, wrapped)));
        Due.taken(x, 0, "worth 5+year*0-7/2;", 1);
        due("13: signs", x.of(0, 10), 2);
        x.toss(1);
        due("13: of one that is thrown", x.of(0, 7), 0);
        due("13: its worth", x.of(0, 10), 2);
    }

    private static void met() {
        CardDrawer x = new CardDrawer();
        Due.taken(x, 1, "person 3 by 4;person 3 by 5;person 0 by 11;", 3);
        due("14: the first counts", x.met(3), 4);
        due("14: 0", x.met(0), 11);
        due("14: nobody", x.met(5), NONE);
        due("14: met(-1)", x.met(-1), NONE);
        due("14: met(12)", x.met(12), NONE);
    }

    private static void called() {
        CardDrawer x = new CardDrawer();
        Due.taken(x, 2, "firm 3 from 4 to 4;firm 3 from 5 to 60;", 2);
        due("15: the last counts", x.called(3, 0), 5);
        due("15: till", x.called(3, 1), 60);
        due("15: without a line", x.called(2, 0), 0);
        due("15: without a line", x.called(2, 1), 99);
        due("15: called(-1, 0)", x.called(-1, 0), NONE);
        due("15: called(8, 0)", x.called(8, 0), NONE);
        due("15: called(3, 2)", x.called(3, 2), NONE);
        due("15: called(3, -1)", x.called(3, -1), NONE);
    }

    private static void book() {
        CardDrawer x = new CardDrawer();
        x.card(0, 0, 0, 0);
        for (int i = 0; i < 149; i++) {
            x.does(0, false);
        }
        due("16: look(6)", x.look(6), 149);
        x.set(0, 0, 50);
        x.toss(1);
        due("16: line 149", x.book(149, 0), 50);
        due("16: line 149", x.book(149, 1), 2);
        due("16: line 149", x.book(149, 2), 0);
        due("16: line 149", x.book(149, 3), 49);
        x.years(3);
        due("16: no more then", x.look(6), 150);
        due("16: but the years go on", x.look(1), 53);
        due("16: LACKED", x.look(4), 3);
        due("16: book(150, 0)", x.book(150, 0), NONE);
        due("16: book(-1, 0)", x.book(-1, 0), NONE);
        due("16: book(0, 4)", x.book(0, 4), NONE);
        due("16: book(0, -1)", x.book(0, -1), NONE);
        x.undo();
        x.undo();
        x.undo();
        due("16: still full", x.look(6), 150);
        x.undo();
        due("16: a line less", x.look(6), 149);
        due("16: book(149, 0)", x.book(149, 0), NONE);
    }

    private static void goes() {
        CardDrawer x = new CardDrawer();
        due("17: goes(0, 0)", x.goes(0, 0), NONE);
        due("17: goes(61, 0)", x.goes(61, 0), NONE);
        due("17: goes(1, 4)", x.goes(1, 4), NONE);
        due("17: goes(1, -1)", x.goes(1, -1), NONE);
        due("17: goes(60, 2)", x.goes(60, 2), 60);
        x.card(0, 0, 0, 0);
        x.card(1, 0, 1, 0);
        Due.taken(x, 0, "holds 500 when trade=0;holds 499;dust 3;", 3);
        due("17: USED", x.goes(12, 0), 2);
        due("17: MISSED", x.goes(12, 1), 2);
        due("17: LACKED", x.goes(12, 2), 8);
        due("17: KEPT", x.goes(12, 3), 2);
        due("17: WORN 96", x.goes(32, 3), 2);
        due("17: crumbled", x.goes(33, 3), 0);
        due("17: nothing stays", x.look(1) + x.look(2) + x.look(3) + x.look(4) + x.look(6) + x.look(7) + x.look(15), 0);
        due("17: nothing stays", x.of(0, 5) + x.of(0, 6), 0);
        Due.taken(x, 3, "in 3 throw 1;in 3 ring 0;in 5 ring 1;", 3);
        due("17: by the plan", x.goes(4, 3), 1);
        due("17: WORN by a ring", x.goes(29, 3), 1);
        due("17: WORN by a ring", x.goes(30, 3), 0);
        x.set(0, 0, 90);
        x.years(1);
        due("17: what was, too", x.goes(1, 0) + x.goes(1, 1) + x.goes(1, 2), 2);
        due("17: beyond 99", x.goes(60, 0) + x.goes(60, 1) + x.goes(60, 2), 61);
    }

    private static void aheadAndDated() {
        CardDrawer x = new CardDrawer();
        for (int i = 0; i < 14; i++) {
            x.card(i % 12, i % 8, 0, 0);
        }
        due("18: alike", x.ahead(2, 2), NONE);
        due("18: no card", x.ahead(14, 2), NONE);
        due("18: no card", x.ahead(2, 14), NONE);
        due("18: no card", x.ahead(-2, 2), NONE);
        due("18: no card", x.ahead(2, -1), NONE);
        for (int i = 0; i < 12; i++) {
            due("18: told", x.ahead(12 - i, 13 - i), i + 1);
        }
        due("18: a thirteenth", x.ahead(0, 1), NONE);
        due("18: look(12)", x.look(12), 12);
        Due.taken(x, 2, "firm 1 from 10 to 80;firm 5 from 30 to 40;", 2);
        due("19: along a long way, least", x.dated(12, 0), 30);
        due("19: ahead of the last, greatest", x.dated(12, 1), 40);
        due("19: of the first, greatest", x.dated(1, 1), 40);
        due("19: of the first, least", x.dated(1, 0), 10);
        due("19: of one without any", x.dated(0, 0), 0);
        due("19: of one without any", x.dated(0, 1), 99);
        due("19: dated(14, 0)", x.dated(14, 0), NONE);
        due("19: dated(-1, 0)", x.dated(-1, 0), NONE);
        due("19: dated(0, 2)", x.dated(0, 2), NONE);
        due("19: dated(0, -1)", x.dated(0, -1), NONE);
        Due.taken(x, 2, "firm 1 from 50 to 80;firm 5 from 30 to 40;", 2);
        due("19: some told can't be", x.dated(0, 0), NONE);
        due("18: nothing is told", x.ahead(NONE, 99), 0);
        due("19: now it can", x.dated(13, 0), 30);
        x.ahead(1, 2);
        x.ahead(2, 1);
        due("19: in the same year", x.dated(2, 0), 50);
        due("19: in the same year", x.dated(2, 1), 80);
        x.toss(14);
        due("19: KEPT or not", x.dated(2, 1), 80);
    }

    private static void hands() {
        CardDrawer x = new CardDrawer();
        x.card(9, 0, 0, 0);
        x.card(8, 0, 0, 0);
        x.card(5, 0, 1, 0);
        x.card(0, 0, 2, 0);
        x.card(11, 0, 3, 0);
        Due.taken(x, 1, "person 7 by 0;person 0 by 6;person 8 by 7;person 9 by 6;person 6 by 8;person 5 by 9;", 6);
        due("20: steps", x.hands(0, 0), 2);
        due("20: the least of several", x.hands(0, 1), 8);
        due("20: the least of several ways", x.hands(0, 2), 6);
        due("20: steps", x.hands(1, 0), 3);
        due("20: the first one", x.hands(1, 2), 6);
        due("20: 0 himself", x.hands(2, 0), 0);
        due("20: 0 himself", x.hands(2, 1), 0);
        due("20: 0 himself", x.hands(2, 2), 0);
        due("20: no way", x.hands(3, 0), NONE);
        due("20: no way", x.hands(3, 2), NONE);
        due("20: no card", x.hands(4, 1), NONE);
        due("20: hands(6, 0)", x.hands(6, 0), NONE);
        due("20: hands(-1, 0)", x.hands(-1, 0), NONE);
        due("20: hands(0, 3)", x.hands(0, 3), NONE);
        due("20: hands(0, -1)", x.hands(0, -1), NONE);
        x.toss(14);
        due("20: KEPT cards alone", x.hands(2, 0), NONE);
        x.card(1, 0, 4, 0);
        Due.taken(x, 1, "person 1 by 0;", 1);
        due("20: straight", x.hands(4, 0), 1);
        due("20: straight", x.hands(4, 1), 1);
        due("20: he is the first one", x.hands(4, 2), 1);
    }

    private static void ledAndRoot() {
        CardDrawer x = new CardDrawer();
        Due.taken(x, 1, "person 1 by 2;person 2 by 3;person 3 by 2;person 4 by 1;person 11 by 10;", 5);
        due("21: all behind him", x.led(2), 1 << 1 | 1 << 3 | 1 << 4);
        due("21: without him", x.led(3), 1 << 1 | 1 << 2 | 1 << 4);
        due("21: one", x.led(10), 1 << 11);
        due("21: none", x.led(4), 0);
        due("21: led(-1)", x.led(-1), NONE);
        due("21: led(12)", x.led(12), NONE);
        due("22: one who was there already", x.root(4), 2);
        due("22: from within", x.root(3), 3);
        due("22: from within", x.root(2), 2);
        due("22: whom nobody introduced", x.root(11), 10);
        due("22: himself", x.root(0), 0);
        due("22: root(-1)", x.root(-1), NONE);
        due("22: root(12)", x.root(12), NONE);
    }

    private static void tells() {
        CardDrawer x = new CardDrawer();
        due("23: nobody", x.tells(0), 0);
        x.card(0, 0, 0, 0);
        due("23: 0 left out", x.tells(0), 0);
        x.card(9, 0, 0, 0);
        due("23: alone", x.tells(1), 1 << 9);
        Due.taken(x, 1, "person 1 by 0;person 2 by 0;person 4 by 3;person 5 by 4;person 6 by 5;person 8 by 7;", 6);
        due("23: how many", x.tells(0), 6);
        due("23: the least of several", x.tells(1), 1 << 1 | 1 << 2 | 1 << 3 | 1 << 5 | 1 << 7 | 1 << 9);
        due("23: tells(2)", x.tells(2), NONE);
        due("23: tells(-1)", x.tells(-1), NONE);
        x.toss(14);
        due("23: without a KEPT card", x.tells(0), 5);
    }

    private static void hears() {
        CardDrawer x = new CardDrawer();
        Due.taken(x, 1, "person 1 by 0;person 2 by 1;person 3 by 2;person 4 by 11;", 4);
        due("24: either way", x.hears(0, 2), 15);
        due("24: but through those", x.hears(4, 0), 3);
        due("24: the other side", x.hears(2, 3), 12);
        due("24: one line", x.hears(0, 11), 1 << 11 | 1 << 4);
        due("24: alone", x.hears(4095 - 128, 7), 128);
        due("24: one of those", x.hears(4, 2), NONE);
        due("24: bits", x.hears(4096, 2), NONE);
        due("24: bits", x.hears(-1, 2), NONE);
        due("24: begins", x.hears(0, 12), NONE);
        due("24: begins", x.hears(0, -1), NONE);
    }

    private static void asksAndKeeps() {
        CardDrawer x = new CardDrawer();
        due("25: asks(3, 0)", x.asks(3, 0), NONE);
        due("25: asks(-2, 0)", x.asks(-2, 0), NONE);
        due("25: asks(0, 12)", x.asks(0, 12), NONE);
        due("25: asks(0, -1)", x.asks(0, -1), NONE);
        due("25: asks(1, 8)", x.asks(1, 8), NONE);
        due("25: asks(2, 6)", x.asks(2, 6), NONE);
        x.card(0, 0, 0, 0);
        x.card(0, 1, 1, 0);
        x.card(2, 1, 2, 0);
        x.card(2, 0, 1, 0);
        due("26: no question", x.keeps(14, 1), 0);
        due("25: 0", x.asks(0, 0), 1);
        due("25: 1", x.asks(0, 2), 2);
        due("25: 2", x.asks(1, 1), 3);
        due("25: the same again", x.asks(1, 1), 4);
        due("25: one that nobody answers", x.asks(2, 5), 5);
        due("26: k 0", x.keeps(0, 0), 0);
        due("26: k 0", x.keeps(0, 1), 0);
        due("26: one", x.keeps(1, 0), 3);
        due("26: the least of several", x.keeps(1, 1), 2);
        due("26: two", x.keeps(2, 0), 4);
        due("26: the least of several", x.keeps(2, 1), 5);
        due("26: the fewest", x.keeps(14, 1), 5);
        due("26: keeps(15, 0)", x.keeps(15, 0), NONE);
        due("26: keeps(-1, 0)", x.keeps(-1, 0), NONE);
        due("26: keeps(1, 2)", x.keeps(1, 2), NONE);
        due("26: keeps(1, -1)", x.keeps(1, -1), NONE);
        for (int i = 6; i <= 10; i++) {
            due("25: asks", x.asks(2, 0), i);
        }
        due("25: an eleventh", x.asks(2, 0), NONE);
        due("26: ten questions", x.keeps(14, 0), 9);
        due("25: look(13)", x.look(13), 10);
        due("25: nothing is asked then", x.asks(NONE, 77), 0);
        due("25: look(13)", x.look(13), 0);
        x.asks(0, 0);
        x.toss(1);
        due("26: KEPT cards alone", x.keeps(3, 1), 2);
    }

    private static void sorted() {
        CardDrawer x = new CardDrawer();
        x.card(1, 1, 1, 0);
        x.card(1, 2, 1, 0);
        x.card(3, 2, 1, 0);
        due("27: no question", x.sorted(0), 0);
        x.asks(1, 1);
        due("27: FIRM", x.sorted(0), 1);
        due("27: one", x.sorted(1), 1);
        x.asks(0, 3);
        due("27: the least of several", x.sorted(0), 0);
        due("27: all and one", x.sorted(1), 4);
        x.asks(2, 5);
        due("27: TRADE, none looked at", x.sorted(0), 2);
        due("27: how many", x.sorted(1), 6);
        due("27: sorted(2)", x.sorted(2), NONE);
        due("27: sorted(-1)", x.sorted(-1), NONE);
        x.toss(14);
        due("27: KEPT alone", x.sorted(1), 0);
    }

    private static void apart() {
        CardDrawer x = new CardDrawer();
        x.card(1, 1, 1, 1);
        due("28: one card", x.apart(), 0);
        x.card(1, 1, 1, 1);
        due("28: alike in all", x.apart(), NONE);
        x.does(1, false);
        due("28: BENT", x.apart(), 16);
        x.set(1, 1, 2);
        due("28: the least of several", x.apart(), 8);
        x.card(1, 1, 2, 1);
        x.card(1, 2, 1, 1);
        due("28: several", x.apart(), 2 | 4 | 8);
        x.does(0, true);
        x.toss(14);
        due("28: none", x.apart(), 0);
    }

    private static void seconds() {
        CardDrawer x = new CardDrawer();
        x.card(1, 0, 0, 9);
        x.card(1, 0, 0, 7);
        x.card(1, 0, 0, 7);
        x.card(2, 0, 0, 7);
        due("29: seconds", x.seconds(), 1 | 4);
        x.set(0, 0, 50);
        x.toss(1);
        due("29: thrown", x.look(5), 1 | 4 | 8);
        due("29: of KEPT ones", x.seconds(), 1);
    }

    private static void beside() {
        CardDrawer x = new CardDrawer();
        x.card(1, 1, 1, 1);
        due("30: no other one", x.beside(0, 0), NONE);
        due("30: no other one", x.beside(0, 1), NONE);
        x.card(2, 2, 2, 2);
        due("30: nothing in common", x.beside(0, 0), 1);
        due("30: nothing in common", x.beside(0, 1), 0);
        x.card(1, 2, 1, 3);
        x.card(1, 2, 1, 1);
        x.card(1, 1, 3, 1);
        due("30: most", x.beside(0, 0), 3);
        due("30: how many", x.beside(0, 1), 3);
        due("30: beside(5, 0)", x.beside(5, 0), NONE);
        due("30: beside(-1, 0)", x.beside(-1, 0), NONE);
        due("30: beside(0, 2)", x.beside(0, 2), NONE);
        due("30: beside(0, -1)", x.beside(0, -1), NONE);
        Due.taken(x, 0, "worth 5-trade when year=1; worth 9;", 2);
        x.toss(2);
        due("30: thrown", x.look(5), 2 | 4 | 8);
        due("30: of one that is thrown", x.beside(0, 0), 3);
        due("30: of one that is thrown", x.beside(4, 1), 2);
    }

    private static void noteAndWhose() {
        CardDrawer x = new CardDrawer();
        due("31: note(4, 0)", x.note(4, 0, true), NONE);
        due("31: note(-2, 0)", x.note(-2, 0, true), NONE);
        due("31: TRADE 6", x.note(0, 6, true), NONE);
        due("31: TRADE -1", x.note(0, -1, true), NONE);
        due("31: FIRM 8", x.note(1, 8, true), NONE);
        due("31: BENT 2", x.note(2, 2, true), NONE);
        due("31: PERSON 12", x.note(3, 12, true), NONE);
        x.card(1, 1, 1, 0);
        x.card(1, 2, 2, 0);
        x.card(2, 1, 2, 0);
        x.card(3, 3, 3, 0);
        x.card(4, 3, 4, 0);
        Due.taken(x, 1, "person 2 by 1;person 3 by 2;", 2);
        due("32: all", x.whose(0), 2 | 4 | 8 | 16);
        due("32: ask", x.whose(1), 2);
        due("31: FIRM is", x.note(1, 1, true), 1);
        due("32: whose", x.whose(0), 2 | 4);
        due("31: TRADE is", x.note(0, 2, true), 2);
        due("32: by one of his cards each", x.whose(0), 2 | 4);
        due("32: ask", x.whose(1), 1);
        due("31: TRADE is not", x.note(0, 1, false), 3);
        due("32: whose", x.whose(0), 4);
        due("32: fewer than two", x.whose(1), NONE);
        due("31: nothing is then", x.note(NONE, 99, true), 0);
        due("31: LED by", x.note(3, 1, true), 1);
        due("32: whose", x.whose(0), 4 | 8);
        due("31: not LED by", x.note(3, 2, false), 2);
        due("32: whose", x.whose(0), 4);
        x.note(NONE, 0, false);
        x.does(3, false);
        due("31: BENT", x.note(2, 1, true), 1);
        due("32: whose", x.whose(0), 8);
        due("32: whose(2)", x.whose(2), NONE);
        due("32: whose(-1)", x.whose(-1), NONE);
        for (int i = 2; i <= 8; i++) {
            due("31: note", x.note(2, 1, true), i);
        }
        due("31: a ninth", x.note(2, 1, true), NONE);
        due("31: look(14)", x.look(14), 8);
        x.toss(14);
        due("32: KEPT alone", x.whose(0), 0);
    }

    private static void uses() {
        CardDrawer x = new CardDrawer();
        due("33: none", x.uses(0), 0);
        due("33: none", x.uses(1), NONE);
        x.card(0, 0, 0, 0);
        x.card(0, 0, 1, 0);
        x.card(0, 0, 1, 0);
        Due.taken(x, 0, "holds 999 when trade=1;holds 1;", 2);
        due("33: downwards", x.uses(0), 1);
        due("33: the least of several", x.uses(1), 1);
        Due.taken(x, 0, "holds 999 when trade=1;holds 2;", 2);
        due("33: 2000", x.uses(0), 2);
        due("33: uses(2)", x.uses(2), NONE);
        due("33: uses(-1)", x.uses(-1), NONE);
        x.toss(1);
        due("33: KEPT alone", x.uses(0), 1);
    }

    private static void game() {
        CardDrawer x = new CardDrawer();
        due("34: none", x.game(0), NONE);
        for (int i = 0; i < 3; i++) {
            x.card(0, 2, 0, 0);
        }
        due("34: all of one", x.game(0), 2);
        due("34: all of one", x.game(1), 3);
        x.card(0, 1, 0, 0);
        due("34: FIRM", x.game(0), 2);
        due("34: leaves one", x.game(1), 2);
        x.card(0, 5, 0, 0);
        x.card(0, 5, 0, 0);
        due("34: who begins loses", x.game(0), NONE);
        due("34: who begins loses", x.game(1), NONE);
        x.card(0, 7, 0, 0);
        due("34: the least of several", x.game(0), 1);
        due("34: how many", x.game(1), 1);
        due("34: game(2)", x.game(2), NONE);
        due("34: game(-1)", x.game(-1), NONE);
    }

    private static void undo() {
        CardDrawer x = new CardDrawer();
        due("35: nothing", x.undo(), false);
        x.card(0, 0, 0, 0);
        x.card(1, 0, 1, 0);
        x.set(0, 0, 30);
        x.does(0, false);
        x.ring(0);
        x.toss(1);
        x.does(0, true);
        x.years(1);
        due("35: five", x.look(15), 5);
        x.ahead(0, 1);
        x.asks(0, 0);
        x.note(0, 0, true);
        x.image(true);
        Due.taken(x, 0, "holds 1;", 1);
        Due.taken(x, 1, "person 1 by 0;", 1);
        Due.taken(x, 2, "firm 1 from 1 to 2;", 1);
        due("35: these forget nothing", x.look(15), 5);
        due("35: year", x.undo(), true);
        due("35: NOW", x.look(1), 30);
        due("35: lines", x.look(6), 4);
        due("35: STATE", x.look(7), 1013904223);
        due("35: find", x.undo(), true);
        due("35: KEPT", x.look(5), 2);
        due("35: throw", x.undo(), true);
        due("35: KEPT", x.look(5), 3);
        due("35: ring", x.undo(), true);
        due("35: STATE", x.look(7), 0);
        due("35: RUNG", x.of(0, 6), 0);
        due("35: bend", x.undo(), true);
        due("35: BENT", x.of(0, 4), 0);
        due("35: THE BOOK", x.look(6), 0);
        due("35: nothing more", x.undo(), false);
        due("35: what was told stays", x.look(8) + x.look(9) + x.look(10) + x.look(12) + x.look(13) + x.look(14), 6);
        for (int i = 0; i < 9; i++) {
            x.does(1, false);
        }
        due("35: six are kept", x.look(15), 6);
        for (int i = 0; i < 6; i++) {
            due("35: undo", x.undo(), true);
        }
        due("35: no seventh", x.undo(), false);
        due("35: three are left", x.look(6), 3);
        due("35: BENT", x.of(1, 4), 1);
    }

    private static void image() {
        CardDrawer x = new CardDrawer();
        due("36: none", x.image(false), false);
        x.card(0, 0, 0, 0);
        x.state(77);
        Due.taken(x, 0, "holds 123;", 1);
        Due.taken(x, 1, "person 1 by 0;", 1);
        Due.taken(x, 2, "firm 1 from 1 to 2;", 1);
        Due.taken(x, 3, "in 0 bend 0;", 1);
        x.card(1, 0, 0, 0);
        x.ahead(0, 1);
        x.asks(0, 0);
        x.note(0, 0, false);
        x.does(0, false);
        due("36: taken", x.image(true), true);
        due("36: forgets nothing", x.look(15), 1);
        int[] was = new int[16];
        for (int what = 0; what < 16; what++) {
            was[what] = x.look(what);
        }
        for (int time = 0; time < 2; time++) {
            x.undo();
            x.toss(2);
            x.years(5);
            x.card(2, 2, 2, 2);
            x.state(5);
            x.ahead(NONE, 0);
            x.asks(1, 1);
            x.note(NONE, 0, true);
            Due.tell(x, 0, "holds 1;dust 2;");
            Due.tell(x, 1, "");
            Due.tell(x, 2, "firm 1 from 3 to 4;firm 2 from 1 to 1;");
            Due.tell(x, 3, "in 1 throw 1;in 2 throw 2;");
            x.does(1, false);
            Due.tell(x, 1, "person 99");
            Due.write(x, "holds 5;");
            due("36: gone back", x.image(false), true);
            for (int what = 0; what < 15; what++) {
                due("36: look(" + what + ")", x.look(what), was[what]);
            }
            due("36: nothing to undo", x.look(15), 0);
            due("36: nothing to undo", x.undo(), false);
            due("36: the law", x.of(1, 8), 123);
            due("36: MET", x.met(1), 0);
            due("36: CALLED", x.called(1, 1), 2);
            due("36: THE BOOK", x.book(0, 1), 3);
            due("36: BENT", x.of(0, 4), 1);
            due("36: fault() stays", x.fault(0), 2);
            due("36: fault() stays", x.fault(1), 7);
            due("36: the tape stays", x.feed(0, 0, 0, 0, 0), 28);
            x.end(0);
            x.years(1);
            due("36: A PLAN", x.of(0, 4), 0);
            x.image(false);
        }
    }

    private static void look() {
        CardDrawer x = new CardDrawer();
        due("37: look(16)", x.look(16), NONE);
        due("37: look(-1)", x.look(-1), NONE);
        due("37: look(MIN)", x.look(Integer.MIN_VALUE), NONE);
        x.card(0, 0, 0, 0);
        x.card(1, 1, 1, 0);
        due("37: CARDS", x.look(0), 2);
        x.toss(1);
        due("37: CARDS stay", x.look(0), 2);
        due("37: KEPT", x.look(5), 2);
        due("37: lines", x.look(6), 1);
        due("37: undo", x.look(15), 1);
    }
}
