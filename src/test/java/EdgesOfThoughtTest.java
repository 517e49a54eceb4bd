/** The edges that the document names for what is thought: promises 17 to 34. */
public final class EdgesOfThoughtTest {
    private static final int NONE = CardDrawer.NONE;
    private static final int MIN = Integer.MIN_VALUE;
    private static final int MAX = Integer.MAX_VALUE;

    private EdgesOfThoughtTest() {
    }

    public static void main(String[] args) throws IllegalAccessException {
        Each.run(EdgesOfThoughtTest.class);
    }

    private static void due(String call, long got, long want) {
        Due.due(call, got, want);
    }

    /** Cards of these people, all of firm, trade and year 0. */
    private static CardDrawer people(int... people) {
        CardDrawer x = new CardDrawer();
        for (int person : people) {
            x.card(person, 0, 0, 0);
        }
        return x;
    }

    private static CardDrawer met(String text) {
        CardDrawer x = new CardDrawer();
        Due.taken(x, 1, text, text.replaceAll("[^;]", "").length());
        return x;
    }

    /** Each person introduced by the one ahead of him. */
    private static CardDrawer chain() {
        StringBuilder text = new StringBuilder();
        for (int person = 1; person < 12; person++) {
            text.append("person ").append(person).append(" by ").append(person - 1).append(';');
        }
        return met(text.toString());
    }

    // ---- 17: goes

    private static void promise17From1To60() {
        CardDrawer x = new CardDrawer();
        for (int n : new int[] {0, 61, -1, MIN, MAX}) {
            for (int what = 0; what <= 3; what++) {
                due("goes(" + n + ", " + what + ")", x.goes(n, what), NONE);
            }
        }
        due("goes(1, 2)", x.goes(1, 2), 1);
        due("goes(60, 2)", x.goes(60, 2), 60);
        due("goes(60, 0)", x.goes(60, 0), 0);
    }

    private static void promise17AnotherWhat() {
        CardDrawer x = people(3);
        for (int what : new int[] {-1, 4, MIN, MAX}) {
            due("goes(1, " + what + ")", x.goes(1, what), NONE);
        }
        due("goes(1, 0)", x.goes(1, 0), 1);
        due("goes(1, 3)", x.goes(1, 3), 1);
    }

    private static void promise17UsedIfHoldsIs500AtLeast() {
        CardDrawer x = people(3);
        Due.taken(x, 0, "holds 499;", 1);
        due("USED at 499", x.goes(1, 0), 0);
        due("MISSED at 499", x.goes(1, 1), 1);
        Due.taken(x, 0, "holds 500;", 1);
        due("USED at 500", x.goes(1, 0), 1);
        due("MISSED at 500", x.goes(1, 1), 0);
        due("LACKED", x.goes(1, 2), 0);
    }

    private static void promise17AnswersIfHoldsIs500AtLeast() {
        CardDrawer x = people(3);
        x.set(0, 0, 6);
        Due.taken(x, 3, "in 6 ring 3;", 1);
        Due.taken(x, 0, "holds 499 when age>0;holds 1000;", 2);
        due("not answered, so it is as old", x.goes(1, 1), 1);
        Due.taken(x, 0, "holds 500 when age>0;holds 0;", 2);
        due("answered, so it is of this year", x.goes(1, 1), 1);
        due("and not used", x.goes(1, 0), 0);
    }

    private static void promise17RingingWearsTo99AtMost() {
        CardDrawer x = people(3);
        Due.taken(x, 3, "in 0 ring 3;", 1);
        Due.taken(x, 0, "holds 0;dust 0;", 2);
        int[] worn = {0, 89, 90, 99};
        int[] kept = {1, 1, 0, 0};
        for (int i = 0; i < worn.length; i++) {
            x.set(2, 0, worn[i]);
            due("KEPT from " + worn[i], x.goes(1, 3), kept[i]);
        }
    }

    private static void promise17TheTradeIsNowModulo6() {
        CardDrawer x = new CardDrawer();
        x.card(0, 0, 5, 0);
        Due.taken(x, 0, "holds 500;dust 0;", 2);
        int[] now = {4, 5, 6, 10, 11, 12, 95};
        int[] used = {0, 1, 0, 0, 1, 0, 1};
        for (int i = 0; i < now.length; i++) {
            x.set(0, 0, now[i]);
            due("USED in " + now[i], x.goes(1, 0), used[i]);
            due("LACKED in " + now[i], x.goes(1, 2), 1 - used[i]);
        }
    }

    private static void promise17InThoughtNowGoesOnBehind99() {
        CardDrawer x = new CardDrawer();
        x.card(0, 0, 4, 99);
        Due.taken(x, 0, "holds 1000;dust 0;", 2);
        Due.taken(x, 3, "in 99 bend 0;in 0 throw 1;", 2);
        x.set(0, 0, 99);
        due("99: trade 3", x.goes(1, 0), 0);
        due("100: trade 4", x.goes(2, 0), 1);
        due("years do not begin anew", x.goes(60, 3), 1);
        due("60 years", x.goes(60, 0) + x.goes(60, 2), 60);
    }

    private static void promise17CountsGoOnFromWhatIs() {
        CardDrawer x = new CardDrawer();
        x.years(3);
        due("goes(1, 2)", x.goes(1, 2), 4);
        due("goes(2, 2)", x.goes(2, 2), 5);
    }

    private static void promise17NothingOfItStays() {
        CardDrawer x = people(3, 4);
        Due.taken(x, 0, "holds 0;dust 50;", 2);
        Due.taken(x, 3, "in 0 ring 3;in 0 bend 0;in 1 throw 1;", 3);
        x.state(9);
        due("goes(60, 3)", x.goes(60, 3), 0);
        int[] look = {2, 0, 0, 0, 0, 3, 0, 9, 2, 0, 0, 3, 0, 0, 0, 0};
        for (int what = 0; what < look.length; what++) {
            due("look(" + what + ")", x.look(what), look[what]);
        }
        for (int card = 0; card < 2; card++) {
            for (int what = 3; what <= 6; what++) {
                due("of(" + card + ", " + what + ")", x.of(card, what), 0);
            }
        }
        due("the same once more", x.goes(60, 3), 0);
        due("MISSED once more", x.goes(1, 1), 1);
    }

    private static void promise17HowManyAreKept() {
        CardDrawer x = people(0, 1, 2, 3, 4, 5, 6, 7, 8, 9, 10, 11, 0, 1);
        Due.taken(x, 0, "dust 98 when person=11;dust 1;", 2);
        due("all fourteen", x.goes(1, 3), 14);
        due("thirteen", x.goes(2, 3), 13);
        x.set(2, 0, 39);
        due("thirteen", x.goes(59, 3), 13);
        due("twelve", x.goes(60, 3), 12);
    }

    private static void promise17WhatAPlanSaysIsDoneInThought() {
        CardDrawer x = people(3, 4);
        Due.taken(x, 0, "holds 1000;dust 0;", 2);
        Due.taken(x, 3, "in 1 throw 2;in 1 ring 3;in 2 find 1;in 2 find 0;in 3 throw 1;in 99 throw 14;", 6);
        int[] kept = {2, 0, 2, 1, 1};
        for (int n = 1; n <= 5; n++) {
            due("goes(" + n + ", 3)", x.goes(n, 3), kept[n - 1]);
        }
        x.set(0, 0, 98);
        due("98", x.goes(1, 3), 2);
        due("99", x.goes(2, 3), 0);
        due("look(5)", x.look(5), 3);
    }

    private static void promise17AgeGoesOnBehind99() {
        CardDrawer x = new CardDrawer();
        x.card(0, 0, 3, 90);
        x.set(0, 0, 99);
        Due.taken(x, 0, "dust 99 when now=100;dust 99 when age=10;dust 0;", 3);
        due("99", x.goes(1, 3), 1);
        due("100", x.goes(2, 3), 0);
        Due.taken(x, 0, "dust 99 when age=68;dust 0;", 2);
        due("157", x.goes(59, 3), 1);
        due("158", x.goes(60, 3), 0);
    }

    // ---- 18: ahead

    private static void promise18CardsThatThereAreNot() {
        CardDrawer x = people(0, 1, 2);
        for (int card : new int[] {-2, 3, 13, 14, MIN, MAX}) {
            due("ahead(" + card + ", 0)", x.ahead(card, 0), NONE);
            due("ahead(0, " + card + ")", x.ahead(0, card), NONE);
        }
        due("ahead(0, -1)", x.ahead(0, -1), NONE);
        due("look(12)", x.look(12), 0);
        due("ahead(0, 2)", x.ahead(0, 2), 1);
        due("ahead(2, 0)", x.ahead(2, 0), 2);
    }

    private static void promise18Alike() {
        CardDrawer x = people(0, 1);
        due("ahead(0, 0)", x.ahead(0, 0), NONE);
        due("ahead(1, 1)", x.ahead(1, 1), NONE);
        due("look(12)", x.look(12), 0);
    }

    private static void promise18TwelveAndNoMore() {
        CardDrawer x = people(0, 1);
        for (int many = 1; many <= 12; many++) {
            due("ahead", x.ahead(0, 1), many);
        }
        due("a thirteenth", x.ahead(0, 1), NONE);
        due("look(12)", x.look(12), 12);
    }

    private static void promise18NothingIsThen() {
        CardDrawer x = people(0, 1);
        due("of none", x.ahead(NONE, 0), 0);
        for (int i = 0; i < 12; i++) {
            x.ahead(0, 1);
        }
        due("of twelve", x.ahead(NONE, MAX), 0);
        due("look(12)", x.look(12), 0);
        due("the first again", x.ahead(1, 0), 1);
    }

    private static void promise18CardsThatAreNotKept() {
        CardDrawer x = people(0, 1);
        x.toss(2);
        due("ahead(0, 1)", x.ahead(0, 1), 1);
    }

    // ---- 19: dated

    private static void promise19CardsThatThereAreNot() {
        CardDrawer x = people(0, 1, 2);
        for (int card : new int[] {-1, 3, 14, MIN, MAX}) {
            due("dated(" + card + ", 0)", x.dated(card, 0), NONE);
            due("dated(" + card + ", 1)", x.dated(card, 1), NONE);
        }
        due("dated(0, 0)", x.dated(0, 0), 0);
        due("dated(2, 1)", x.dated(2, 1), 99);
    }

    private static void promise19AnotherWhat() {
        CardDrawer x = people(0);
        for (int what : new int[] {-1, 2, MIN, MAX}) {
            due("dated(0, " + what + ")", x.dated(0, what), NONE);
        }
    }

    /** Two cards of firms that were called so from one year to another one each, the first told ahead. */
    private static CardDrawer two(int from, int till, int from1, int till1) {
        CardDrawer x = new CardDrawer();
        x.card(0, 0, 0, 0);
        x.card(0, 1, 0, 0);
        x.card(0, 2, 0, 0);
        String text = "firm 0 from " + from + " to " + till + ";firm 1 from " + from1 + " to " + till1 + ";";
        Due.taken(x, 2, text, 2);
        x.ahead(0, 1);
        return x;
    }

    private static void between(CardDrawer x, int card, int least, int greatest) {
        due("dated(" + card + ", 0)", x.dated(card, 0), least);
        due("dated(" + card + ", 1)", x.dated(card, 1), greatest);
    }

    private static void promise19InTheSameYear() {
        CardDrawer x = two(50, 50, 50, 50);
        between(x, 0, 50, 50);
        between(x, 1, 50, 50);
        x.ahead(1, 0);
        between(x, 0, 50, 50);
        between(x, 1, 50, 50);
    }

    private static void promise19OneYearSooner() {
        CardDrawer x = two(49, 50, 48, 49);
        between(x, 0, 49, 49);
        between(x, 1, 49, 49);
    }

    private static void promise19SomeToldCanNotBe() {
        CardDrawer x = two(51, 60, 40, 50);
        between(x, 0, NONE, NONE);
        between(x, 1, NONE, NONE);
        between(x, 2, NONE, NONE);
        x.ahead(NONE, 0);
        between(x, 0, 51, 60);
        between(x, 1, 40, 50);
        between(x, 2, 0, 99);
    }

    private static void promise19TheYearsOfTheCardsAreNotAsked() {
        CardDrawer x = two(10, 20, 10, 20);
        x.set(1, 0, 99);
        x.set(1, 1, 0);
        between(x, 0, 10, 20);
        between(x, 1, 10, 20);
    }

    private static void promise19AlongTwelveStepsForwards() {
        CardDrawer x = new CardDrawer();
        x.card(0, 1, 0, 0);
        for (int i = 1; i < 13; i++) {
            x.card(0, 0, 0, 0);
        }
        Due.taken(x, 2, "firm 1 from 40 to 60;", 1);
        for (int card = 11; card >= 0; card--) {
            x.ahead(card, card + 1);
        }
        between(x, 0, 40, 60);
        between(x, 12, 40, 99);
    }

    private static void promise19AlongTwelveStepsBackwards() {
        CardDrawer x = new CardDrawer();
        for (int i = 0; i < 12; i++) {
            x.card(0, 0, 0, 0);
        }
        x.card(0, 1, 0, 0);
        Due.taken(x, 2, "firm 1 from 40 to 60;", 1);
        for (int card = 0; card < 12; card++) {
            x.ahead(card, card + 1);
        }
        between(x, 12, 40, 60);
        between(x, 0, 0, 60);
    }

    private static void promise19RoundInACircle() {
        CardDrawer x = two(10, 30, 20, 40);
        x.ahead(1, 2);
        x.ahead(2, 0);
        for (int card = 0; card < 3; card++) {
            between(x, card, 20, 30);
        }
    }

    private static void promise19CardsThatAreNotKept() {
        CardDrawer x = two(51, 60, 40, 50);
        x.toss(3);
        between(x, 0, NONE, NONE);
        x.ahead(NONE, 0);
        between(x, 1, 40, 50);
    }

    // ---- 20: hands

    private static void promise20TradeFrom0To5() {
        CardDrawer x = new CardDrawer();
        x.card(0, 0, 0, 0);
        x.card(0, 0, 5, 0);
        due("hands(0, 0)", x.hands(0, 0), 0);
        due("hands(5, 0)", x.hands(5, 0), 0);
        for (int trade : new int[] {-1, 6, MIN, MAX}) {
            for (int what = 0; what <= 2; what++) {
                due("hands(" + trade + ", " + what + ")", x.hands(trade, what), NONE);
            }
        }
    }

    private static void promise20AnotherWhat() {
        CardDrawer x = people(0);
        for (int what : new int[] {-1, 3, MIN, MAX}) {
            due("hands(0, " + what + ")", x.hands(0, what), NONE);
        }
    }

    private static void hands(CardDrawer x, int steps, int who, int first) {
        due("hands(0, 0)", x.hands(0, 0), steps);
        due("hands(0, 1)", x.hands(0, 1), who);
        due("hands(0, 2)", x.hands(0, 2), first);
    }

    private static void promise20Nobody() {
        CardDrawer x = met("person 1 by 0;person 3 by 2;");
        hands(x, NONE, NONE, NONE);
        x.card(1, 0, 1, 0);
        hands(x, NONE, NONE, NONE);
        x.card(2, 0, 0, 0);
        hands(x, NONE, NONE, NONE);
        x.card(1, 0, 0, 0);
        hands(x, 1, 1, 1);
        x.toss(3);
        hands(x, NONE, NONE, NONE);
    }

    private static void promise20ZeroHimself() {
        CardDrawer x = met("person 1 by 0;");
        x.card(1, 0, 0, 0);
        x.card(0, 0, 0, 0);
        hands(x, 0, 0, 0);
    }

    private static void promise20OneStepEitherWay() {
        CardDrawer x = met("person 0 by 7;");
        x.card(7, 0, 0, 0);
        hands(x, 1, 7, 7);
        x = met("person 7 by 0;");
        x.card(7, 0, 0, 0);
        hands(x, 1, 7, 7);
    }

    private static void promise20ElevenSteps() {
        CardDrawer x = chain();
        x.card(11, 0, 0, 0);
        hands(x, 11, 11, 1);
        x.card(10, 0, 0, 0);
        hands(x, 10, 10, 1);
    }

    private static void promise20OfSeveralTheLeast() {
        CardDrawer x = met("person 5 by 0;person 8 by 0;person 9 by 0;");
        x.card(9, 0, 0, 0);
        x.card(8, 0, 0, 0);
        hands(x, 1, 8, 8);
    }

    private static void promise20FewestStepsAheadOfTheLeast() {
        CardDrawer x = met("person 5 by 0;person 1 by 5;");
        x.card(1, 0, 0, 0);
        x.card(5, 0, 0, 0);
        hands(x, 1, 5, 5);
    }

    private static void promise20OfSeveralWaysTheLeast() {
        // 0 is by 6 and leads 4; 9 is by 4 and leads 6: two ways of two steps.
        CardDrawer x = met("person 0 by 6;person 4 by 0;person 9 by 4;person 6 by 9;");
        x.card(9, 0, 0, 0);
        hands(x, 2, 9, 4);
    }

    private static void promise20TheFirstOneIsOnAShortestWay() {
        // By 1 it would be three steps, by 5 two.
        CardDrawer x = met("person 1 by 0;person 2 by 1;person 5 by 0;person 9 by 5;person 2 by 9;");
        x.card(9, 0, 0, 0);
        hands(x, 2, 9, 5);
    }

    private static void promise20WhatMetIsNoMore() {
        CardDrawer x = met("person 7 by 0;person 5 by 7;");
        x.card(5, 0, 0, 0);
        hands(x, 2, 5, 7);
        due("hears(0, 0)", x.hears(0, 0), 1 | 32 | 128);
        due("tells(1)", x.tells(1), 32);
        Due.taken(x, 1, "person 5 by 6;", 1);
        hands(x, NONE, NONE, NONE);
        due("hears(0, 0)", x.hears(0, 0), 1);
        due("hears(0, 7)", x.hears(0, 7), 128);
        due("hears(0, 5)", x.hears(0, 5), 32 | 64);
        due("tells(1)", x.tells(1), 32);
        Due.taken(x, 1, "", 0);
        due("hears(0, 5)", x.hears(0, 5), 32);
    }

    // ---- 21: led

    private static void promise21PersonFrom0To11() {
        CardDrawer x = met("person 0 by 11;person 1 by 0;");
        due("led(0)", x.led(0), 2);
        due("led(11)", x.led(11), 3);
        for (int person : new int[] {-1, 12, MIN, MAX}) {
            due("led(" + person + ")", x.led(person), NONE);
        }
    }

    private static void promise21NobodyIsLed() {
        CardDrawer x = met("person 1 by 0;");
        due("led(1)", x.led(1), 0);
        due("led(2)", x.led(2), 0);
    }

    private static void promise21WithoutHimself() {
        CardDrawer x = met("person 1 by 2;person 2 by 1;");
        due("led(1)", x.led(1), 4);
        due("led(2)", x.led(2), 2);
    }

    private static void promise21AndSoOn() {
        due("led(0) along a chain", chain().led(0), 4094);
        due("led(10) along a chain", chain().led(10), 2048);
        StringBuilder text = new StringBuilder();
        for (int person = 0; person < 11; person++) {
            text.append("person ").append(person).append(" by ").append(person + 1).append(';');
        }
        due("led(11) along a chain downwards", met(text.toString()).led(11), 2047);
        due("led(1) along a chain downwards", met(text.toString()).led(1), 1);
    }

    // ---- 22: root

    private static void promise22PersonFrom0To11() {
        CardDrawer x = met("person 0 by 11;");
        due("root(0)", x.root(0), 11);
        due("root(11)", x.root(11), 11);
        for (int person : new int[] {-1, 12, MIN, MAX}) {
            due("root(" + person + ")", x.root(person), NONE);
        }
    }

    private static void promise22WhomNobodyIntroduced() {
        CardDrawer x = chain();
        due("root(0)", x.root(0), 0);
        due("root(1)", x.root(1), 0);
        due("root(11)", x.root(11), 0);
    }

    private static void promise22OneWhoWasThereAlready() {
        CardDrawer x = met("person 1 by 2;person 2 by 3;person 3 by 1;person 4 by 2;person 5 by 4;");
        due("root(1)", x.root(1), 1);
        due("root(2)", x.root(2), 2);
        due("root(4): 4, 2, 3, 1, 2", x.root(4), 2);
        due("root(5)", x.root(5), 2);
    }

    private static void promise22AllTwelveInACircle() {
        StringBuilder text = new StringBuilder();
        for (int person = 0; person < 12; person++) {
            text.append("person ").append(person).append(" by ").append((person + 1) % 12).append(';');
        }
        CardDrawer x = met(text.toString());
        for (int person = 0; person < 12; person++) {
            due("root(" + person + ")", x.root(person), person);
            due("led(" + person + ")", x.led(person), 4095 & ~(1 << person));
        }
    }

    // ---- 23: tells

    private static void tells(CardDrawer x, int many, int set) {
        due("tells(0)", x.tells(0), many);
        due("tells(1)", x.tells(1), set);
    }

    private static void promise23AnotherWhat() {
        CardDrawer x = people(1);
        for (int what : new int[] {-1, 2, MIN, MAX}) {
            due("tells(" + what + ")", x.tells(what), NONE);
        }
        tells(x, 1, 2);
    }

    private static void promise23NobodyToBeTold() {
        tells(new CardDrawer(), 0, 0);
        tells(people(0), 0, 0);
        CardDrawer x = people(1);
        x.toss(1);
        tells(x, 0, 0);
    }

    private static void promise23ZeroIsLeftOut() {
        CardDrawer x = met("person 1 by 0;person 2 by 0;");
        tells(x, 2, 6);
        tells(met("person 0 by 3;"), 1, 8);
    }

    private static void promise23OfSeveralTheLeast() {
        tells(met("person 2 by 1;"), 1, 2);
        tells(met("person 1 by 2;"), 1, 2);
        tells(met("person 1 by 9;person 2 by 9;person 2 by 1;"), 1, 512);
        tells(met("person 1 by 2;person 2 by 3;person 3 by 1;"), 1, 2);
    }

    private static void promise23FewestAheadOfTheLeast() {
        tells(met("person 1 by 11;person 2 by 11;person 3 by 11;"), 1, 2048);
    }

    private static void promise23ElevenWhoKnowNobody() {
        tells(people(1, 2, 3, 4, 5, 6, 7, 8, 9, 10, 11), 11, 4094);
    }

    private static void promise23OneOfWhomThereIsNoCardIsInMet() {
        CardDrawer x = met("person 2 by 1;");
        x.card(5, 0, 0, 0);
        tells(x, 2, 34);
        x.toss(1);
        tells(x, 1, 2);
    }

    private static void promise23AlongAChainOfEleven() {
        // 11 hears by 10 at least, then 8 by 7, 5 by 4, and 1 tells 2.
        tells(chain(), 4, 1 << 1 | 1 << 4 | 1 << 7 | 1 << 10);
    }

    // ---- 24: hears

    private static void promise24BitsFrom0To11() {
        CardDrawer x = chain();
        for (int not : new int[] {-1, 4096, 8192, MIN, MAX}) {
            due("hears(" + not + ", 0)", x.hears(not, 0), NONE);
        }
        due("hears(0, 0)", x.hears(0, 0), 4095);
        due("hears(4094, 0)", x.hears(4094, 0), 1);
        due("hears(4095, 0)", x.hears(4095, 0), NONE);
        due("hears(2047, 11)", x.hears(2047, 11), 2048);
        due("hears(2048, 0)", x.hears(2048, 0), 2047);
    }

    private static void promise24WhoBeginsFrom0To11() {
        CardDrawer x = new CardDrawer();
        for (int begins : new int[] {-1, 12, 32, MIN, MAX}) {
            due("hears(0, " + begins + ")", x.hears(0, begins), NONE);
        }
        due("hears(0, 0)", x.hears(0, 0), 1);
        due("hears(0, 11)", x.hears(0, 11), 2048);
    }

    private static void promise24WhoBeginsIsNotOneOfThose() {
        CardDrawer x = new CardDrawer();
        for (int person = 0; person < 12; person++) {
            due("one of those", x.hears(1 << person, person), NONE);
            due("all but one", x.hears(4095 & ~(1 << person), person), 1 << person);
        }
    }

    private static void promise24NotThroughThose() {
        CardDrawer x = met("person 1 by 2;person 2 by 3;");
        due("hears(0, 1)", x.hears(0, 1), 14);
        due("hears(4, 1)", x.hears(4, 1), 2);
        due("hears(4, 3)", x.hears(4, 3), 8);
        due("hears(8, 1)", x.hears(8, 1), 6);
    }

    private static void promise24AroundThose() {
        CardDrawer x = met("person 1 by 2;person 2 by 3;person 3 by 4;person 4 by 1;");
        due("hears(4, 1)", x.hears(4, 1), 2 | 8 | 16);
        due("hears(20, 1)", x.hears(20, 1), 2);
    }

    // ---- 25: asks

    private static void promise25BoundsOfEach() {
        int[] last = {11, 7, 5};
        for (int what = 0; what < 3; what++) {
            CardDrawer x = new CardDrawer();
            due("the first", x.asks(what, 0), 1);
            due("the last", x.asks(what, last[what]), 2);
            for (int v : new int[] {-1, last[what] + 1, MIN, MAX}) {
                due("asks(" + what + ", " + v + ")", x.asks(what, v), NONE);
            }
            due("look(13)", x.look(13), 2);
        }
    }

    private static void promise25AnotherWhat() {
        CardDrawer x = new CardDrawer();
        for (int what : new int[] {-2, 3, MIN, MAX}) {
            due("asks(" + what + ", 0)", x.asks(what, 0), NONE);
        }
        due("look(13)", x.look(13), 0);
    }

    private static void promise25TenAndNoMore() {
        CardDrawer x = people(0);
        for (int many = 1; many <= 10; many++) {
            due("asks(0, 0)", x.asks(0, 0), many);
        }
        due("an eleventh", x.asks(0, 0), NONE);
        due("look(13)", x.look(13), 10);
        due("all ten find one", x.keeps(1, 0), 10);
    }

    private static void promise25NothingIsThen() {
        CardDrawer x = people(0);
        due("of none", x.asks(NONE, 0), 0);
        for (int i = 0; i < 10; i++) {
            x.asks(0, 0);
        }
        due("of ten", x.asks(NONE, MAX), 0);
        due("look(13)", x.look(13), 0);
        due("keeps(14, 0)", x.keeps(14, 0), 0);
        due("the first again", x.asks(0, 0), 1);
    }

    // ---- 26: keeps

    private static void keeps(CardDrawer x, int k, int many, int set) {
        due("keeps(" + k + ", 0)", x.keeps(k, 0), many);
        due("keeps(" + k + ", 1)", x.keeps(k, 1), set);
    }

    private static void promise26From0To14() {
        CardDrawer x = people(0, 1);
        x.asks(0, 0);
        x.asks(0, 1);
        for (int k : new int[] {-1, 15, MIN, MAX}) {
            keeps(x, k, NONE, NONE);
        }
        keeps(x, 0, 0, 0);
        keeps(x, 1, 1, 1);
        keeps(x, 2, 2, 3);
        keeps(x, 14, 2, 3);
    }

    private static void promise26AnotherWhat() {
        CardDrawer x = people(0);
        x.asks(0, 0);
        for (int what : new int[] {-1, 2, MIN, MAX}) {
            due("keeps(1, " + what + ")", x.keeps(1, what), NONE);
        }
    }

    private static void promise26NoQuestionsAndNoCards() {
        CardDrawer x = people(0, 1);
        keeps(x, 14, 0, 0);
        x.asks(0, 5);
        keeps(x, 14, 0, 0);
        CardDrawer y = new CardDrawer();
        y.asks(0, 0);
        keeps(y, 14, 0, 0);
        CardDrawer z = people(0);
        z.asks(0, 0);
        z.toss(1);
        keeps(z, 14, 0, 0);
    }

    private static void promise26TenQuestionsForTenCards() {
        CardDrawer x = people(0, 1, 2, 3, 4, 5, 6, 7, 8, 9, 10, 11, 10, 11);
        for (int person = 0; person < 10; person++) {
            x.asks(0, person);
        }
        keeps(x, 9, 9, 511);
        keeps(x, 10, 10, 1023);
        keeps(x, 14, 10, 1023);
    }

    private static void promise26TheThirteenthAndFourteenthCard() {
        CardDrawer x = people(0, 0, 0, 0, 0, 0, 0, 0, 0, 0, 0, 0, 1, 2);
        x.asks(0, 1);
        x.asks(0, 2);
        keeps(x, 1, 1, 4096);
        keeps(x, 2, 2, 12288);
    }

    private static void promise26FewestCardsAheadOfTheLeast() {
        CardDrawer x = new CardDrawer();
        x.card(1, 1, 0, 0);
        x.card(2, 2, 0, 0);
        x.card(1, 2, 0, 0);
        x.asks(0, 1);
        x.asks(1, 2);
        keeps(x, 1, 2, 4);
        keeps(x, 2, 2, 4);
        keeps(x, 14, 2, 4);
    }

    private static void promise26MostQuestionsAheadOfFewestCards() {
        CardDrawer x = people(1, 2);
        x.asks(0, 1);
        x.asks(0, 2);
        x.asks(0, 2);
        keeps(x, 1, 2, 2);
        keeps(x, 2, 3, 3);
    }

    private static void promise26OfSeveralTheLeast() {
        CardDrawer x = people(1, 1, 2, 2);
        x.asks(0, 1);
        x.asks(0, 2);
        keeps(x, 1, 1, 1);
        keeps(x, 2, 2, 5);
        keeps(x, 4, 2, 5);
        x.toss(1);
        keeps(x, 2, 2, 6);
    }

    private static void promise26TheLeastWhateverIsAskedFirst() {
        CardDrawer x = people(1, 2, 3);
        x.asks(0, 3);
        x.asks(0, 2);
        x.asks(0, 1);
        keeps(x, 1, 1, 1);
        keeps(x, 2, 2, 3);
        keeps(x, 3, 3, 7);
    }

    private static void promise26TheLeastOfTwoForTheSameQuestions() {
        // The third card finds all but the last question; the first and the second one find that, too.
        CardDrawer x = new CardDrawer();
        x.card(1, 5, 2, 0);
        x.card(2, 5, 1, 0);
        x.card(2, 4, 2, 0);
        x.asks(0, 2);
        x.asks(2, 2);
        x.asks(1, 4);
        x.asks(1, 5);
        keeps(x, 1, 3, 4);
        keeps(x, 2, 4, 5);
        keeps(x, 3, 4, 5);
    }

    // ---- 27: sorted

    private static void sorted(CardDrawer x, int by, int many) {
        due("sorted(0)", x.sorted(0), by);
        due("sorted(1)", x.sorted(1), many);
    }

    private static void promise27AnotherWhat() {
        CardDrawer x = people(0);
        x.asks(0, 0);
        for (int what : new int[] {-1, 2, MIN, MAX}) {
            due("sorted(" + what + ")", x.sorted(what), NONE);
        }
        sorted(x, 0, 1);
    }

    private static void promise27NoQuestionsAndNoCards() {
        sorted(people(0, 1), 0, 0);
        CardDrawer x = new CardDrawer();
        x.asks(2, 0);
        sorted(x, 0, 0);
        CardDrawer y = people(0, 1);
        y.asks(2, 0);
        y.toss(2);
        sorted(y, 0, 0);
    }

    private static void promise27ByEachOfThem() {
        for (int what = 0; what < 3; what++) {
            CardDrawer x = people(0, 1, 2);
            x.asks(what, 3);
            sorted(x, what, 0);
        }
    }

    private static void promise27OfSeveralTheLeast() {
        CardDrawer x = new CardDrawer();
        x.card(0, 0, 0, 0);
        x.card(1, 1, 1, 0);
        x.card(2, 2, 2, 0);
        x.asks(1, 0);
        x.asks(2, 0);
        sorted(x, 1, 4);
        x.asks(0, 0);
        sorted(x, 0, 7);
        x.asks(2, 1);
        sorted(x, 2, 8);
    }

    private static void promise27OneFewerIsEnough() {
        CardDrawer x = new CardDrawer();
        x.card(0, 0, 0, 0);
        x.card(0, 1, 0, 0);
        x.card(1, 1, 1, 0);
        x.asks(0, 0);
        x.asks(1, 0);
        sorted(x, 1, 4);
        x.toss(1);
        due("look(5)", x.look(5), 6);
        sorted(x, 1, 2);
    }

    // ---- 28: apart

    private static void promise28NoneAndOne() {
        due("none", new CardDrawer().apart(), 0);
        due("one", people(5).apart(), 0);
        CardDrawer x = people(5, 5);
        x.toss(1);
        due("one that is KEPT", x.apart(), 0);
        x.toss(1);
        due("none that is KEPT", x.apart(), 0);
    }

    private static void promise28AllTogetherDoNot() {
        CardDrawer x = people(5, 5);
        due("alike", x.apart(), NONE);
        x.does(1, false);
        due("but for BENT", x.apart(), 16);
        x.does(0, false);
        due("alike again", x.apart(), NONE);
        x.set(1, 1, 1);
        due("but for YEAR", x.apart(), 8);
        x.set(2, 0, 1);
        x.set(1, 1, 0);
        due("WORN does not count", x.apart(), NONE);
    }

    private static void promise28AllFive() {
        CardDrawer x = new CardDrawer();
        x.card(0, 0, 0, 0);
        x.card(1, 0, 0, 0);
        x.card(0, 1, 0, 0);
        x.card(0, 0, 1, 0);
        x.card(0, 0, 0, 1);
        x.card(0, 0, 0, 0);
        due("alike", x.apart(), NONE);
        x.does(5, false);
        due("by all five", x.apart(), 31);
    }

    private static void promise28OfSeveralTheLeast() {
        CardDrawer x = new CardDrawer();
        x.card(0, 0, 0, 0);
        x.card(1, 1, 1, 1);
        due("by each", x.apart(), 1);
        CardDrawer y = new CardDrawer();
        y.card(0, 0, 0, 0);
        y.card(0, 1, 1, 1);
        due("by FIRM, TRADE or YEAR", y.apart(), 2);
        y.card(1, 0, 0, 0);
        due("by two", y.apart(), 3);
    }

    private static void promise28FewestAheadOfTheLeast() {
        CardDrawer x = new CardDrawer();
        x.card(0, 0, 0, 1);
        x.card(0, 1, 0, 2);
        x.card(1, 0, 0, 3);
        due("YEAR alone, not PERSON and FIRM", x.apart(), 8);
    }

    private static void promise28FirstAndLastCardAlike() {
        CardDrawer x = people(0, 1, 2, 3, 4, 5, 6, 7, 8, 9, 10, 11);
        x.card(0, 1, 0, 0);
        due("apart()", x.apart(), 3);
        x.card(0, 0, 0, 0);
        due("apart()", x.apart(), NONE);
    }

    // ---- 29: seconds

    private static void promise29None() {
        due("no card", new CardDrawer().seconds(), 0);
        due("one card", people(3).seconds(), 0);
        due("one of each", people(3, 4, 5).seconds(), 0);
    }

    private static void promise29InTheSameYearTheGreaterNumber() {
        due("two", people(3, 3).seconds(), 2);
        due("fourteen", people(3, 3, 3, 3, 3, 3, 3, 3, 3, 3, 3, 3, 3, 3).seconds(), 16382);
    }

    private static void promise29LesserYearByOne() {
        CardDrawer x = people(3, 3, 4);
        x.set(1, 0, 1);
        due("the first is the later one", x.seconds(), 1);
        x.set(1, 1, 1);
        due("in the same year", x.seconds(), 2);
        x.set(1, 1, 2);
        due("the second is the later one", x.seconds(), 2);
    }

    private static void promise29OfKeptCardsAlone() {
        CardDrawer x = people(3, 3);
        x.toss(1);
        due("the first is thrown", x.seconds(), 0);
        x.does(0, true);
        due("it is found", x.seconds(), 2);
        x.toss(2);
        due("both are thrown", x.seconds(), 0);
    }

    // ---- 30: beside

    private static void beside(CardDrawer x, int card, int other, int many) {
        due("beside(" + card + ", 0)", x.beside(card, 0), other);
        due("beside(" + card + ", 1)", x.beside(card, 1), many);
    }

    private static void promise30CardsThatThereAreNot() {
        CardDrawer x = people(0, 1, 2);
        for (int card : new int[] {-1, 3, 14, MIN, MAX}) {
            beside(x, card, NONE, NONE);
        }
        beside(x, 0, 1, 3);
        beside(x, 2, 0, 3);
    }

    private static void promise30AnotherWhat() {
        CardDrawer x = people(0, 1);
        for (int what : new int[] {-1, 2, MIN, MAX}) {
            due("beside(0, " + what + ")", x.beside(0, what), NONE);
        }
    }

    private static void promise30NoOtherKeptOne() {
        CardDrawer x = people(0);
        beside(x, 0, NONE, NONE);
        x.card(0, 0, 0, 0);
        beside(x, 0, 1, 4);
        x.toss(1);
        due("look(5)", x.look(5), 2);
        beside(x, 1, NONE, NONE);
    }

    private static void promise30KeptOrNot() {
        CardDrawer x = people(0, 1);
        x.toss(1);
        beside(x, 0, 1, 3);
        x.toss(1);
        beside(x, 0, NONE, NONE);
    }

    private static void promise30NothingInCommon() {
        CardDrawer x = new CardDrawer();
        x.card(0, 0, 0, 0);
        x.card(1, 1, 1, 1);
        x.card(2, 2, 2, 2);
        beside(x, 0, 1, 0);
        beside(x, 2, 0, 0);
        x.does(1, false);
        x.does(2, false);
        beside(x, 2, 0, 0);
    }

    private static void promise30OfSeveralTheLeast() {
        CardDrawer x = new CardDrawer();
        x.card(0, 0, 0, 0);
        x.card(0, 1, 1, 1);
        x.card(0, 2, 0, 2);
        x.card(0, 0, 3, 3);
        beside(x, 0, 2, 2);
        beside(x, 3, 0, 2);
        x.card(0, 0, 0, 9);
        beside(x, 0, 4, 3);
        x.card(0, 0, 0, 0);
        beside(x, 0, 5, 4);
    }

    // ---- 31: note

    private static void promise31BoundsOfEach() {
        int[] last = {5, 7, 1, 11};
        for (int what = 0; what < 4; what++) {
            CardDrawer x = new CardDrawer();
            due("the first", x.note(what, 0, true), 1);
            due("the last", x.note(what, last[what], false), 2);
            for (int v : new int[] {-1, last[what] + 1, MIN, MAX}) {
                due("note(" + what + ", " + v + ", true)", x.note(what, v, true), NONE);
                due("note(" + what + ", " + v + ", false)", x.note(what, v, false), NONE);
            }
            due("look(14)", x.look(14), 2);
        }
    }

    private static void promise31AnotherWhat() {
        CardDrawer x = new CardDrawer();
        for (int what : new int[] {-2, 4, MIN, MAX}) {
            due("note(" + what + ", 0, true)", x.note(what, 0, true), NONE);
        }
        due("look(14)", x.look(14), 0);
    }

    private static void promise31EightAndNoMore() {
        CardDrawer x = people(0, 1);
        for (int many = 1; many <= 8; many++) {
            due("note(0, 0, true)", x.note(0, 0, true), many);
        }
        due("a ninth", x.note(0, 1, true), NONE);
        due("look(14)", x.look(14), 8);
        due("whose(0)", x.whose(0), 3);
    }

    private static void promise31NothingIsThen() {
        CardDrawer x = people(0);
        due("of none", x.note(NONE, 0, true), 0);
        for (int i = 0; i < 8; i++) {
            x.note(0, 1, true);
        }
        due("whose(0)", x.whose(0), 0);
        due("of eight", x.note(NONE, MAX, false), 0);
        due("look(14)", x.look(14), 0);
        due("whose(0)", x.whose(0), 1);
        due("the first again", x.note(0, 0, true), 1);
    }

    // ---- 32: whose

    private static void promise32AnotherWhat() {
        CardDrawer x = people(0, 1);
        for (int what : new int[] {-1, 2, MIN, MAX}) {
            due("whose(" + what + ")", x.whose(what), NONE);
        }
    }

    private static void promise32NobodyWithAKeptCard() {
        CardDrawer x = people(0, 11);
        due("all", x.whose(0), 2049);
        x.toss(1);
        due("one is thrown", x.whose(0), 2048);
        x.toss(1);
        due("none is KEPT", x.whose(0), 0);
    }

    private static void promise32FewerThanTwoAreNotAsked() {
        CardDrawer x = new CardDrawer();
        due("nobody", x.whose(1), NONE);
        x.card(3, 0, 2, 0);
        due("one", x.whose(1), NONE);
        x.card(3, 0, 4, 0);
        due("one with two cards", x.whose(1), NONE);
        x.card(4, 0, 2, 0);
        due("two", x.whose(1), 4);
        x.note(0, 4, true);
        due("one of two", x.whose(1), NONE);
    }

    private static void promise32OfSeveralTradesTheLeast() {
        due("all have 0, so each leaves two", people(3, 4).whose(1), 0);
        CardDrawer x = new CardDrawer();
        x.card(3, 0, 3, 0);
        x.card(4, 0, 5, 0);
        due("3 or 5", x.whose(1), 3);
        x.card(5, 0, 5, 0);
        due("3 or 5 of three", x.whose(1), 3);
        x.card(6, 0, 5, 0);
        x.card(3, 0, 5, 0);
        x.card(4, 0, 4, 0);
        due("3 or 4 of four leave three", x.whose(1), 3);
        x.card(5, 0, 4, 0);
        due("4 leaves two", x.whose(1), 4);
    }

    private static void promise32ByOneOfHisCardsEach() {
        CardDrawer x = new CardDrawer();
        x.card(3, 1, 2, 0);
        x.card(3, 4, 5, 0);
        x.card(4, 1, 5, 0);
        x.note(0, 2, true);
        x.note(1, 4, true);
        due("by two cards", x.whose(0), 8);
        x.note(2, 1, true);
        due("none is BENT", x.whose(0), 0);
        x.does(2, false);
        due("another one's is BENT", x.whose(0), 0);
        x.does(1, false);
        due("one of his is BENT", x.whose(0), 8);
    }

    private static void promise32IsNot() {
        CardDrawer x = new CardDrawer();
        x.card(3, 1, 2, 0);
        x.card(4, 1, 5, 0);
        x.note(0, 2, false);
        due("he has it not", x.whose(0), 16);
        x.note(0, 5, false);
        due("nobody", x.whose(0), 0);
    }

    private static void promise32LedBy() {
        CardDrawer x = people(1, 2, 3);
        Due.taken(x, 1, "person 2 by 1;person 3 by 2;", 2);
        x.note(3, 1, true);
        due("LED by 1, without him", x.whose(0), 12);
        x.note(3, 2, false);
        due("not LED by 2", x.whose(0), 4);
        x.note(NONE, 0, true);
        x.note(3, 11, true);
        due("LED by one who leads nobody", x.whose(0), 0);
    }

    // ---- 33: uses

    private static int sum(String law, int cards) {
        CardDrawer x = new CardDrawer();
        for (int i = 0; i < cards; i++) {
            x.card(i % 12, 0, 0, 0);
        }
        Due.taken(x, 0, law, law.replaceAll("[^;]", "").length());
        return x.uses(0);
    }

    private static void promise33AnotherWhat() {
        CardDrawer x = people(0);
        for (int what : new int[] {-1, 2, MIN, MAX}) {
            due("uses(" + what + ")", x.uses(what), NONE);
        }
    }

    private static void promise33Downwards() {
        due("999", sum("holds 999;", 1), 0);
        due("1000", sum("holds 1000;", 1), 1);
        due("1999", sum("holds 1000 when person=0;holds 999;", 2), 1);
        due("2000", sum("holds 1000;", 2), 2);
        due("13986", sum("holds 999;", 14), 13);
        due("14000", sum("holds 1000;", 14), 14);
    }

    private static void promise33NoneIsKept() {
        CardDrawer x = people(0, 1);
        due("uses(0)", x.uses(0), 1);
        due("uses(1)", x.uses(1), 0);
        x.toss(2);
        due("uses(0)", x.uses(0), 0);
        due("uses(1)", x.uses(1), NONE);
    }

    private static void promise33OfSeveralTheLeast() {
        CardDrawer x = people(0, 1, 2, 3);
        Due.taken(x, 0, "holds 0;", 1);
        due("all are 0", x.uses(1), 0);
        Due.taken(x, 0, "holds 5 when person>1;holds 4;", 2);
        due("2 or 3", x.uses(1), 2);
        Due.taken(x, 0, "holds 1000+person;", 1);
        due("held to 1000", x.uses(1), 0);
        Due.taken(x, 0, "holds 997+person;", 1);
        due("the last", x.uses(1), 3);
    }

    // ---- 34: game

    private static void game(int firm, int many, int... firms) {
        CardDrawer x = new CardDrawer();
        for (int each : firms) {
            x.card(0, each, 0, 0);
        }
        due("game(0)", x.game(0), firm);
        due("game(1)", x.game(1), many);
    }

    private static void promise34AnotherWhat() {
        CardDrawer x = people(0);
        for (int what : new int[] {-1, 2, MIN, MAX}) {
            due("game(" + what + ")", x.game(what), NONE);
        }
        due("game(1)", x.game(1), 1);
    }

    private static void promise34WhoBeginsLoses() {
        game(NONE, NONE);
        game(NONE, NONE, 0, 7);
        game(NONE, NONE, 0, 1, 1, 2, 2, 2);
        game(NONE, NONE, 3, 3, 3, 3, 3, 3, 3, 4, 4, 4, 4, 4, 4, 4);
    }

    private static void promise34TheLastOneOfAll() {
        game(0, 1, 0);
        game(7, 1, 7);
        game(7, 14, 7, 7, 7, 7, 7, 7, 7, 7, 7, 7, 7, 7, 7, 7);
        game(3, 6, 3, 3, 3, 3, 3, 3, 3, 3, 3, 3, 4, 4, 4, 4);
    }

    private static void promise34OneMoreThanAlike() {
        game(1, 1, 0, 1, 1);
        game(0, 2, 0, 0, 0, 1);
        game(2, 1, 0, 1, 1, 2, 2, 2, 2);
    }

    private static void promise34OfSeveralTheLeast() {
        game(0, 1, 0, 1, 2);
        game(5, 1, 7, 6, 5);
        game(0, 1, 0, 1, 2, 3, 4, 5, 6);
    }

    private static void promise34KeptOnesAlone() {
        CardDrawer x = new CardDrawer();
        x.card(0, 4, 0, 0);
        x.card(0, 5, 0, 0);
        due("game(0)", x.game(0), NONE);
        x.toss(1);
        due("game(0)", x.game(0), 5);
        due("game(1)", x.game(1), 1);
        x.toss(1);
        due("game(0)", x.game(0), NONE);
        due("game(1)", x.game(1), NONE);
    }
}
