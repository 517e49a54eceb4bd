/** The texts: tokens, faults and their places, and what the law tells. */
public final class TextsTest {
    private TextsTest() {
    }

    public static void main(String[] args) {
        tokens();
        lawGrammar();
        openOnes();
        lines();
        metFaults();
        calledFaults();
        planFaults();
        lawTells();
        longLaw();
        Due.close("TextsTest");
    }

    private static void tokens() {
        CardDrawer x = new CardDrawer();
        Due.taken(x, 0, "holds1when1=1and2>1;dust 7\n;worth\n\n  year*2/3+1;", 3);
        Due.taken(x, 0, " \n ", 0);
        Due.taken(x, 0, "holds 0000;", 1);
        Due.taken(x, 0, "holds 9999;", 1);
        Due.refused(x, 0, "holds 00001;", 1, 6);
        Due.refused(x, 0, "holds\t1;", 1, 5);
        Due.refused(x, 0, "Holds 1;", 1, 0);
        Due.refused(x, 0, "holdsX 1;", 1, 0);
        Due.refused(x, 0, "holdsholds 1;", 1, 0);
        for (char c : new char[] {'a', 'z', 'A', 'Z'}) {
            Due.refused(x, 0, "holds" + c + " 1;", 1, 0);
        }
        for (char c : new char[] {'@', '[', '`', '{'}) {
            Due.refused(x, 0, "holds" + c + " 1;", 1, 5);
        }
        Due.refused(x, 0, "holds 1:;", 1, 7);
        Due.refused(x, 0, "hold s 1;", 1, 0);
        Due.refused(x, 0, "holds 1.;", 1, 7);
        Due.refused(x, 0, "holds 1\u00e9;", 1, 7);
        Due.refused(x, 0, "holds 1\u0000;", 1, 7);
        Due.refused(x, 0, "holds 1 \r;", 1, 8);
        Due.refused(x, 0, "   holds   ", 1, 11);
        Due.refused(x, 0, "holds 1", 1, 7);
        Due.refused(x, 0, ";", 1, 0);
    }

    private static void lawGrammar() {
        CardDrawer x = new CardDrawer();
        Due.taken(x, 0, "worth person+firm-trade*year/7*bent+worn+rung+age+now when not not (1<2 or 3=4) and 5>6;", 1);
        Due.refused(x, 0, "worth -1;", 1, 6);
        Due.refused(x, 0, "worth (1);", 1, 6);
        Due.refused(x, 0, "worth 1+;", 1, 8);
        Due.refused(x, 0, "worth 1 1;", 1, 8);
        Due.refused(x, 0, "worth 1/age;", 1, 8);
        Due.refused(x, 0, "worth 1/0;", 2, 8);
        Due.refused(x, 0, "worth 1/000 bad", 2, 8);
        Due.refused(x, 0, "worth 1/10000;", 1, 8);
        Due.refused(x, 0, "worth 1 when;", 1, 12);
        Due.refused(x, 0, "worth 1 when 1;", 1, 14);
        Due.refused(x, 0, "worth 1 when (1);", 1, 15);
        Due.refused(x, 0, "worth 1 when (1=1;", 1, 17);
        Due.refused(x, 0, "worth 1 when 1=1);", 1, 16);
        Due.refused(x, 0, "worth 1 when 1=1=1;", 1, 16);
        Due.refused(x, 0, "worth 1 when 1=1 or;", 1, 19);
        Due.refused(x, 0, "worth 1 when and 1=1;", 1, 13);
        Due.refused(x, 0, "worth 1 when not;", 1, 16);
        Due.refused(x, 0, "worth 1 when (1=1)+1=2;", 1, 18);
        Due.refused(x, 0, "worth 1 when 1=1 when 1=1;", 1, 17);
        Due.refused(x, 0, "worth 1 or 1=1;", 1, 8);
        Due.refused(x, 0, "worth holds;", 1, 6);
        Due.refused(x, 0, "worth by;", 1, 6);
        Due.refused(x, 0, "worth 1;;", 1, 8);
        Due.refused(x, 0, "person 1 by 2;", 1, 0);
        Due.refused(x, 0, "worth 1 when 1<1/0 or (", 2, 17);
    }

    private static void openOnes() {
        CardDrawer x = new CardDrawer();
        Due.taken(x, 0, "dust 1 when ((((((((1=1))))))));", 1);
        Due.taken(x, 0, "dust 1 when not(not(not(not(1=1))));", 1);
        Due.taken(x, 0, "dust 1 when not not not not not not not not 1=1;", 1);
        Due.taken(x, 0, "dust 1 when (1=1) and (1=1) and (1=1) and (1=1) and (1=1) and (1=1) and (1=1) and (1=1) and (1=1);", 1);
        Due.taken(x, 0, "dust 1 when not 1=1 or not 1=1 or not 1=1 or not 1=1 or not 1=1 or not 1=1 or not 1=1 or not 1=1 or not 1=1;", 1);
        Due.taken(x, 0, "dust 1 when (((((((1=1) or (1=1))))))) and not (((((((1=1)))))));", 1);
        Due.refused(x, 0, "dust 1 when not(not(not(not(not 1=1))));", 3, 28);
        Due.refused(x, 0, "dust 1 when ((((((((not 1=1))))))));", 3, 20);
        Due.refused(x, 0, "dust 1 when not ((((((((1=1))))))));", 3, 23);
        Due.refused(x, 0, "dust 1 when ((((((((+", 1, 20);
        Due.refused(x, 0, "dust 1/0 when (((((((((", 2, 7);
    }

    private static String times(String line, int n) {
        StringBuilder s = new StringBuilder();
        for (int i = 0; i < n; i++) {
            s.append(line);
        }
        return s.toString();
    }

    private static void lines() {
        CardDrawer x = new CardDrawer();
        x.card(0, 0, 0, 0);
        String[] line = {"dust 1;", "person 1 by 2;", "firm 1 from 2 to 3;", "in 2 throw 14;"};
        for (int k = 0; k < 4; k++) {
            Due.taken(x, k, times(line[k], 16), 16);
            Due.due("look", x.look(8 + k), 16);
            Due.refused(x, k, times(line[k], 17), 3, 16 * line[k].length());
            Due.refused(x, k, times(line[k], 16) + "  " + line[k].substring(0, line[k].indexOf(' ')), 3, 16 * line[k].length() + 2);
            Due.refused(x, k, times(line[k], 16) + ";", 1, 16 * line[k].length());
            Due.refused(x, k, times(line[k], 16) + "when", 1, 16 * line[k].length());
            Due.due("it stays", x.look(8 + k), 16);
        }
        Due.taken(x, 0, times("dust 1;", 16) + times(" ", 400 - 16 * 7), 16);
    }

    private static void metFaults() {
        CardDrawer x = new CardDrawer();
        Due.taken(x, 1, "person 11 by 0;person 0 by 11;person 0 by 3;", 3);
        Due.refused(x, 1, "person 12 by 12;", 2, 7);
        Due.refused(x, 1, "person 3 by 03;", 2, 12);
        Due.refused(x, 1, "person 3 by 12;", 2, 12);
        Due.refused(x, 1, "person 3 by 12345;", 1, 12);
        Due.refused(x, 1, "person 3 from 4;", 1, 9);
        Due.refused(x, 1, "person by 3;", 1, 7);
        Due.refused(x, 1, "person 3 by 4 person", 1, 14);
        Due.refused(x, 1, "person 3 by 4;person", 1, 20);
        Due.refused(x, 1, "firm 3 by 4;", 1, 0);
        Due.refused(x, 1, "person 3 by -4;", 1, 12);
    }

    private static void calledFaults() {
        CardDrawer x = new CardDrawer();
        Due.taken(x, 2, "firm 7 from 0 to 0;firm 0 from 99 to 99;", 2);
        Due.refused(x, 2, "firm 8 from 1 to 2;", 2, 5);
        Due.refused(x, 2, "firm 7 from 100 to 2;", 2, 12);
        Due.refused(x, 2, "firm 7 from 5 to 4;", 2, 17);
        Due.refused(x, 2, "firm 7 from 5 to 100;", 2, 17);
        Due.refused(x, 2, "firm 7 to 5 from 6;", 1, 7);
        Due.refused(x, 2, "firm 7 from 5;", 1, 13);
        Due.refused(x, 2, "person 7 from 5 to 6;", 1, 0);
        Due.due("it stays", x.called(0, 0), 99);
    }

    private static void planFaults() {
        CardDrawer x = new CardDrawer();
        Due.refused(x, 3, "in 0 bend 0;", 2, 10);
        Due.refused(x, 3, "in 0 find 0;", 2, 10);
        Due.taken(x, 3, "in 99 throw 14;in 0 ring 11;", 2);
        x.card(0, 0, 0, 0);
        x.card(0, 0, 0, 0);
        Due.taken(x, 3, "in 0 bend 1;in 0 find 1;in 5 throw 1;", 3);
        Due.refused(x, 3, "in 0 bend 2;", 2, 10);
        Due.refused(x, 3, "in 0 find 2;", 2, 10);
        Due.refused(x, 3, "in 0 throw 0;", 2, 11);
        Due.refused(x, 3, "in 0 throw 15;", 2, 11);
        Due.refused(x, 3, "in 0 ring 12;", 2, 10);
        Due.refused(x, 3, "in 100 ring 1;", 2, 3);
        Due.refused(x, 3, "in 0 dust 1;", 1, 5);
        Due.refused(x, 3, "in 0 ring;", 1, 9);
        Due.refused(x, 3, "ring 0 in 0;", 1, 0);
        Due.refused(x, 3, "in 0 ring 1", 1, 11);
    }

    private static int worth(CardDrawer x, String law) {
        Due.due(law, Due.tell(x, 0, law), 1);
        return x.of(0, 10);
    }

    private static void lawTells() {
        CardDrawer x = new CardDrawer();
        x.card(3, 4, 5, 60);
        x.set(0, 0, 77);
        x.set(2, 0, 8);
        x.does(0, false);
        Due.due("left to right", worth(x, "worth 100-50-7;"), 43);
        Due.due("* ahead of +", worth(x, "worth 2+3*4+5;"), 19);
        Due.due("/ as it comes", worth(x, "worth 7/2*2;"), 6);
        Due.due("* then /", worth(x, "worth 7*2/2;"), 7);
        Due.due("towards 0", worth(x, "worth 10+year-67/2-now-60;") , Math.max(0, 10 + 60 - 33 - 77 - 60));
        Due.due("person", worth(x, "worth person*100+firm*10+trade;"), 345);
        Due.due("year, bent, worn", worth(x, "worth year+bent*100+worn*10;"), 240);
        Due.due("age, now, rung", worth(x, "worth age+now+rung;"), 94);
        Due.due("and ahead of or", worth(x, "worth 1 when 1=1 or 1=1 and 1=2;"), 1);
        Due.due("and ahead of or", worth(x, "worth 1 when 1=2 and 1=1 or 1=1;"), 1);
        Due.due("( )", worth(x, "worth 1 when (1=1 or 1=1) and 1=2;"), 82);
        Due.due("not", worth(x, "worth 1 when not 1=1 or 1=1;"), 1);
        Due.due("not ( )", worth(x, "worth 1 when not (1=1 or 1=1);"), 82);
        Due.due("not and", worth(x, "worth 1 when not 1=2 and 1=2;"), 82);
        Due.due("<", worth(x, "worth 1 when 2<2;"), 82);
        Due.due(">", worth(x, "worth 1 when 2>2;"), 82);
        Due.due("several or", worth(x, "worth 1 when 1=2 or 1=3 or 1=1;"), 1);
        Due.due("several and", worth(x, "worth 1 when 1=1 and 2=2 and 3=4;"), 82);
        Due.tell(x, 0, "worth 5 when age<17;worth 6 when age=17;worth 7;worth 8;holds 9;");
        Due.due("the first that is so", x.of(0, 10), 6);
        Due.due("another word's line", x.of(0, 8), 9);
        Due.due("no line", x.of(0, 9), 1);
        negatives(x);
    }

    private static void negatives(CardDrawer x) {
        // 0-7/2 is 0 less 3; a negative part of a product: worn is 8, so 1-worn can't stand in a product,
        // but 9999*9999*9999 wraps below 0.
        int below = 9999 * 9999 * 9999;
        Due.due("a wrapped product", below < 0, true);
        Due.due("/ goes towards 0", worth(x, "worth 9999*9999*9999/9999*1+1+9999*9999;"),
            Math.max(0, Math.min(999, below / 9999 + 1 + 9999 * 9999)));
        int part = below / 2000;
        int need = 500 - part;
        StringBuilder law = new StringBuilder("worth 9999*9999*9999/2000");
        for (int left = need; left > 0; left -= 9999 * 99) {
            law.append('+').append(Math.min(left / 99, 9999)).append("*99");
        }
        int sum = part;
        for (int left = need; left > 0; left -= 9999 * 99) {
            sum += Math.min(left / 99, 9999) * 99;
        }
        law.append(';');
        Due.due("a part below 0", worth(x, law.toString()), Math.max(0, Math.min(999, sum)));
    }

    private static void longLaw() {
        CardDrawer x = new CardDrawer();
        x.card(0, 0, 0, 0);
        Due.taken(x, 0, "worth 1" + times("+1", 195) + ";", 1);
        Due.due("a long sum", x.of(0, 10), 196);
        Due.refused(x, 0, times("(", 400), 1, 0);
        Due.taken(x, 0, "worth 7 when " + times("1=1or ", 62) + "1=2;", 1);
        Due.due("a long or", x.of(0, 10), 7);
        String deep = "(1=2 or 1=1 and ";
        Due.taken(x, 0, "worth 7 when " + times(deep, 8) + "1*1+1*1=2" + times(")", 8) + ";", 1);
        Due.due("all that can be held back", x.of(0, 10), 7);
    }
}
