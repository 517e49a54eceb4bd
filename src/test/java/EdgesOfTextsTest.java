/** The edges that the document names for the tape, the texts and what they tell: promises 9 to 15. */
public final class EdgesOfTextsTest {
    private static final int NONE = CardDrawer.NONE;
    private static final int MIN = Integer.MIN_VALUE;
    private static final int MAX = Integer.MAX_VALUE;
    private static final int BLANKS = 0x20202020;
    private static final String[] LINE = {"dust 1;", "person 1 by 2;", "firm 1 from 2 to 3;", "in 2 throw 14;"};

    private EdgesOfTextsTest() {
    }

    public static void main(String[] args) throws IllegalAccessException {
        Each.run(EdgesOfTextsTest.class);
    }

    private static void due(String call, long got, long want) {
        Due.due(call, got, want);
    }

    private static void due(String call, boolean got, boolean want) {
        Due.due(call, got, want);
    }

    private static int blanks(CardDrawer x) {
        return x.feed(BLANKS, BLANKS, BLANKS, BLANKS, BLANKS);
    }

    /** A drawer with one card of all four texts, one line of each. */
    private static CardDrawer told() {
        CardDrawer x = new CardDrawer();
        x.card(3, 1, 2, 0);
        for (int k = 0; k < 4; k++) {
            Due.taken(x, k, LINE[k], 1);
        }
        return x;
    }

    private static void allStands(CardDrawer x) {
        for (int k = 0; k < 4; k++) {
            due("look(" + (8 + k) + ")", x.look(8 + k), 1);
        }
        due("of(0, 9)", x.of(0, 9), 1);
        due("met(1)", x.met(1), 2);
        due("called(1, 0)", x.called(1, 0), 2);
        due("called(1, 1)", x.called(1, 1), 3);
    }

    // ---- 9: feed

    private static void promise09FourHundredAndNoMore() {
        CardDrawer x = new CardDrawer();
        for (int many = 20; many <= 400; many += 20) {
            due("feed", blanks(x), many);
        }
        due("a 401st", blanks(x), NONE);
        due("end(401)", x.end(401), false);
        due("end(400)", x.end(400), true);
    }

    private static void promise09RoomForTwenty() {
        CardDrawer x = new CardDrawer();
        for (int i = 0; i < 20; i++) {
            blanks(x);
        }
        for (int n : new int[] {399, 390, 381}) {
            due("end(" + n + ")", x.end(n), true);
            due("feed behind " + n, blanks(x), NONE);
            due("it has " + n, x.end(n + 1), false);
        }
        due("end(380)", x.end(380), true);
        due("feed behind 380", blanks(x), 400);
        due("end(379)", x.end(379), true);
        due("feed behind 379", blanks(x), 399);
    }

    private static void promise09NothingComesIfRefused() {
        CardDrawer x = told();
        Due.write(x, "dust 7;" + " ".repeat(378));
        due("a byte that can't stand there", x.feed(-1, -1, -1, -1, -1), NONE);
        due("text(0)", x.text(0), 1);
        due("of(0, 9)", x.of(0, 9), 7);
    }

    private static void promise09HighestByteFirst() {
        CardDrawer x = new CardDrawer();
        int a = 'f' << 24 | 'i' << 16 | 'r' << 8 | 'm';
        int b = ' ' << 24 | '3' << 16 | ' ' << 8 | 'f';
        int c = 'r' << 24 | 'o' << 16 | 'm' << 8 | ' ';
        int d = '4' << 24 | ' ' << 16 | 't' << 8 | 'o';
        int e = ' ' << 24 | '5' << 16 | '6' << 8 | ';';
        due("feed", x.feed(a, b, c, d, e), 20);
        due("text(2)", x.text(2), 1);
        due("called(3, 0)", x.called(3, 0), 4);
        due("called(3, 1)", x.called(3, 1), 56);
    }

    private static void promise09BytesAreWithoutSign() {
        CardDrawer x = new CardDrawer();
        due("a byte of 255", x.feed(0x202020ff, BLANKS, BLANKS, BLANKS, BLANKS), 20);
        due("text(0)", x.text(0), NONE);
        due("fault(0)", x.fault(0), 1);
        due("fault(1)", x.fault(1), 3);
        due("a byte of 160", x.feed(0xa0202020, BLANKS, BLANKS, BLANKS, BLANKS), 20);
        due("text(0)", x.text(0), NONE);
        due("fault(1)", x.fault(1), 0);
    }

    private static void promise09ComesBehind() {
        CardDrawer x = told();
        Due.write(x, "dust 4");
        due("feed", x.feed('2' << 24 | ';' << 16 | ' ' << 8 | ' ', BLANKS, BLANKS, BLANKS, BLANKS), 26);
        due("text(0)", x.text(0), 1);
        due("of(0, 9)", x.of(0, 9), 42);
    }

    // ---- 10: end

    private static void promise10NotSoMany() {
        CardDrawer x = new CardDrawer();
        due("end(1) of none", x.end(1), false);
        due("end(0) of none", x.end(0), true);
        blanks(x);
        due("end(21) of 20", x.end(21), false);
        due("end(MAX) of 20", x.end(MAX), false);
        due("end(20) of 20", x.end(20), true);
        due("end(19) of 20", x.end(19), true);
        due("end(20) of 19", x.end(20), false);
        due("feed", blanks(x), 39);
    }

    private static void promise10Below0() {
        CardDrawer x = new CardDrawer();
        blanks(x);
        due("end(-1)", x.end(-1), false);
        due("end(MIN)", x.end(MIN), false);
        due("it has 20", blanks(x), 40);
        due("end(0)", x.end(0), true);
        due("it has none", blanks(x), 20);
    }

    private static void promise10FalseChangesNothing() {
        CardDrawer x = told();
        Due.write(x, "dust 42;");
        due("end(9)", x.end(9), false);
        due("end(-1)", x.end(-1), false);
        due("end(8)", x.end(8), true);
        due("text(0)", x.text(0), 1);
        due("of(0, 9)", x.of(0, 9), 42);
    }

    private static void promise10TheFirstOnesAlone() {
        CardDrawer x = told();
        Due.write(x, "dust 7;dust 8;@@@@@@");
        due("end(7)", x.end(7), true);
        due("text(0)", x.text(0), 1);
        due("of(0, 9)", x.of(0, 9), 7);
    }

    private static void promise10EndOf0IsAnEmptyText() {
        CardDrawer x = told();
        Due.write(x, "dust 7;");
        due("end(0)", x.end(0), true);
        due("text(0)", x.text(0), 0);
        due("look(8)", x.look(8), 0);
    }

    // ---- 11: text

    private static void promise11NoSuchText() {
        for (int k : new int[] {-1, 4, MIN, MAX}) {
            CardDrawer x = told();
            Due.write(x, "dust 2;");
            due("text(" + k + ")", x.text(k), NONE);
            due("fault(0)", x.fault(0), 0);
            due("fault(1)", x.fault(1), NONE);
            allStands(x);
        }
    }

    private static void promise11NoSuchTextTellsFault0BehindAFault() {
        CardDrawer x = told();
        Due.refused(x, 0, "dust;", 1, 4);
        due("text(4)", x.text(4), NONE);
        due("fault(0)", x.fault(0), 0);
        due("fault(1)", x.fault(1), NONE);
    }

    private static void promise11TheTapeIsEmptyThen() {
        CardDrawer x = told();
        Due.write(x, "dust 2;");
        due("a good one", x.text(0), 1);
        due("feed", blanks(x), 20);
        due("a fault", x.text(3), 0);
        Due.write(x, "dust;");
        due("a fault", x.text(0), NONE);
        due("feed", blanks(x), 20);
        due("no such text", x.text(4), NONE);
        due("feed", blanks(x), 20);
    }

    private static void promise11FirstAndLastText() {
        CardDrawer x = new CardDrawer();
        x.card(0, 0, 0, 0);
        Due.taken(x, 0, "dust 5;", 1);
        due("THE LAW", x.look(8), 1);
        Due.taken(x, 3, "in 0 bend 0;in 1 bend 0;", 2);
        due("A PLAN", x.look(11), 2);
        due("MET", x.look(9), 0);
        due("CALLED", x.look(10), 0);
    }

    private static void promise11EmptyTextHasNoLines() {
        for (int k = 0; k < 4; k++) {
            CardDrawer x = told();
            due("text(" + k + ") of nothing", x.text(k), 0);
            due("fault(0)", x.fault(0), 0);
            due("fault(1)", x.fault(1), NONE);
            for (int other = 0; other < 4; other++) {
                due("look(" + (8 + other) + ")", x.look(8 + other), other == k ? 0 : 1);
            }
        }
    }

    private static void promise11EmptyTextTellsNothing() {
        CardDrawer x = told();
        for (int k = 0; k < 4; k++) {
            x.text(k);
        }
        due("of(0, 9)", x.of(0, 9), 0);
        due("met(1)", x.met(1), NONE);
        due("called(1, 0)", x.called(1, 0), 0);
        due("called(1, 1)", x.called(1, 1), 99);
        x.set(0, 0, 2);
        x.years(1);
        due("look(5)", x.look(5), 1);
    }

    private static void promise11BlanksAloneAreAnEmptyText() {
        CardDrawer x = told();
        Due.taken(x, 0, " ", 0);
        Due.taken(x, 1, "\n", 0);
        Due.taken(x, 2, " \n".repeat(200), 0);
        Due.taken(x, 3, " ".repeat(400), 0);
    }

    private static void promise11FaultLeavesItAsItWas() {
        String[] faulty = {"dust 2;dust;", "person 1 by 3;person 4 by 4;", "firm 1 from 4 to 5;firm 1 from 6 to 5;",
            "in 2 throw 1;in 2 throw 0;"};
        for (int k = 0; k < 4; k++) {
            CardDrawer x = told();
            due("text(" + k + ")", Due.tell(x, k, faulty[k]), NONE);
            allStands(x);
            x.set(0, 0, 2);
            x.card(0, 0, 0, 0);
            x.years(1);
            due("A PLAN throws all", x.look(5), 0);
        }
    }

    private static void promise11SixteenLines() {
        for (int k = 0; k < 4; k++) {
            CardDrawer x = told();
            Due.taken(x, k, LINE[k].repeat(15), 15);
            Due.taken(x, k, LINE[k].repeat(16), 16);
            due("look(" + (8 + k) + ")", x.look(8 + k), 16);
        }
    }

    private static void promise11SeventeenthLineIsFault3AtItsKeyword() {
        for (int k = 0; k < 4; k++) {
            CardDrawer x = told();
            int place = 16 * LINE[k].length();
            Due.refused(x, k, LINE[k].repeat(17), 3, place);
            Due.refused(x, k, LINE[k].repeat(16) + "\n " + LINE[k], 3, place + 2);
            Due.refused(x, k, LINE[k].repeat(16) + LINE[k].replaceAll(" .*", ""), 3, place);
            allStands(x);
        }
    }

    private static void promise11NoKeywordAsSeventeenthIsFault1() {
        for (int k = 0; k < 4; k++) {
            CardDrawer x = told();
            int place = 16 * LINE[k].length();
            Due.refused(x, k, LINE[k].repeat(16) + ";", 1, place);
            Due.refused(x, k, LINE[k].repeat(16) + "1", 1, place);
            Due.refused(x, k, LINE[k].repeat(16) + "by", 1, place);
        }
    }

    private static void promise11FaultAheadOfTheSeventeenthLine() {
        for (int k = 0; k < 4; k++) {
            CardDrawer x = told();
            Due.refused(x, k, LINE[k].repeat(15) + ";" + LINE[k].repeat(2), 1, 15 * LINE[k].length());
        }
    }

    private static void promise11TheEndIsTheTextsLength() {
        CardDrawer x = told();
        Due.refused(x, 0, "dust", 1, 4);
        Due.refused(x, 0, "dust 1", 1, 6);
        Due.refused(x, 0, "dust 1  \n", 1, 9);
        Due.refused(x, 0, "dust 1 when 1=1 and", 1, 19);
        Due.refused(x, 1, "person", 1, 6);
        Due.refused(x, 2, "firm 1 from ", 1, 12);
        Due.refused(x, 3, "in 1 ring 2", 1, 11);
        Due.refused(x, 0, "dust 1" + " ".repeat(393), 1, 399);
        Due.refused(x, 0, "dust 1" + " ".repeat(394), 1, 400);
        Due.taken(x, 0, "dust 1" + " ".repeat(393) + ";", 1);
    }

    private static void promise11BlanksAre32And10Alone() {
        CardDrawer x = told();
        Due.taken(x, 0, "dust 1;", 1);
        Due.taken(x, 0, "dust\n1\n;\n", 1);
        Due.taken(x, 0, "\n  dust \n 1 ;", 1);
        for (int sign : new int[] {0, 1, 9, 11, 12, 13, 31, 33, 127, 128, 133, 160, 255}) {
            Due.refused(x, 0, "dust" + (char) sign + "1;", 1, 4);
        }
    }

    private static void promise11BlanksMayBeMissing() {
        CardDrawer x = told();
        Due.taken(x, 0, "dust1when1<2and(3=3);", 1);
        Due.taken(x, 1, "person1by2;", 1);
        Due.taken(x, 2, "firm1from2to3;", 1);
        Due.taken(x, 3, "in2ring3;", 1);
    }

    private static void promise11BlanksPartTokens() {
        CardDrawer x = told();
        Due.refused(x, 0, "du st 1;", 1, 0);
        Due.refused(x, 0, "dust 1 2;", 1, 7);
        Due.refused(x, 0, "dust 1\n2;", 1, 7);
    }

    private static void promise11LettersThatStandTogether() {
        CardDrawer x = told();
        Due.refused(x, 0, "dustage;", 1, 0);
        Due.refused(x, 0, "dust agenow;", 1, 5);
        Due.refused(x, 0, "dus 1;", 1, 0);
        Due.refused(x, 0, "dusts 1;", 1, 0);
        Due.refused(x, 0, "dust personn;", 1, 5);
        Due.refused(x, 0, "dust perso;", 1, 5);
        Due.refused(x, 0, "dust persons;", 1, 5);
        Due.refused(x, 0, "d".repeat(400), 1, 0);
    }

    private static void promise11LettersNextToTheirEdges() {
        CardDrawer x = told();
        for (char sign : new char[] {'@', 'A', 'Z', '[', '`', 'a', 'z', '{'}) {
            boolean letter = Character.isLetter(sign);
            Due.refused(x, 0, "dust 1 when now" + sign + "=1;", 1, letter ? 12 : 15);
        }
    }

    private static void promise11CapitalsAreNoKeywords() {
        CardDrawer x = told();
        Due.refused(x, 0, "Dust 1;", 1, 0);
        Due.refused(x, 0, "dusT 1;", 1, 0);
        Due.refused(x, 0, "dust AGE;", 1, 5);
    }

    private static void promise11KeywordsOfAnotherText() {
        CardDrawer x = told();
        Due.refused(x, 0, "firm 1 from 2 to 3;", 1, 0);
        Due.refused(x, 0, "dust to;", 1, 5);
        Due.refused(x, 1, "firm 1 by 2;", 1, 0);
        Due.refused(x, 1, "person 1 from 2;", 1, 9);
        Due.refused(x, 2, "person 1 from 2 to 3;", 1, 0);
        Due.refused(x, 2, "firm 1 in 2 to 3;", 1, 7);
        Due.refused(x, 3, "dust 1;", 1, 0);
        Due.refused(x, 3, "in 1 person 2;", 1, 5);
    }

    private static void promise11EveryKeywordOfAnotherTextCanNotStandThere() {
        CardDrawer x = told();
        for (String word : "by from to in throw ring bend find".split(" ")) {
            Due.refused(x, 0, word + " 1;", 1, 0);
            Due.refused(x, 0, "dust " + word + ";", 1, 5);
            Due.refused(x, 0, "dust 1 " + word + " 1=1;", 1, 7);
        }
        for (String word : "holds dust worth when or and not trade year bent worn rung age now firm from to in find".split(" ")) {
            Due.refused(x, 1, word + " 1 by 2;", 1, 0);
            Due.refused(x, 1, "person 1 " + word + " 2;", 1, 9);
        }
        for (String word : "holds when not person trade now by in throw".split(" ")) {
            Due.refused(x, 2, word + " 1 from 2 to 3;", 1, 0);
            Due.refused(x, 2, "firm 1 " + word + " 2 to 3;", 1, 7);
            Due.refused(x, 2, "firm 1 from 2 " + word + " 3;", 1, 14);
        }
        for (String word : "holds when not person firm now by from to".split(" ")) {
            Due.refused(x, 3, word + " 1 ring 2;", 1, 0);
            Due.refused(x, 3, "in 1 " + word + " 2;", 1, 5);
        }
        allStands(x);
    }

    private static void promise11EveryKeywordOfTheLawStandsInItsPlaceAlone() {
        CardDrawer x = told();
        for (String word : "holds dust worth".split(" ")) {
            Due.taken(x, 0, word + " 1;", 1);
            Due.refused(x, 0, "dust " + word + ";", 1, 5);
        }
        for (String word : "person firm trade year bent worn rung age now".split(" ")) {
            Due.taken(x, 0, "dust " + word + " when " + word + "=" + word + ";", 1);
            Due.refused(x, 0, word + " 1;", 1, 0);
        }
        for (String word : "when or and not".split(" ")) {
            Due.refused(x, 0, "dust " + word + ";", 1, 5);
            Due.refused(x, 0, word + " 1;", 1, 0);
        }
    }

    private static void promise11FourHundredTokens() {
        CardDrawer x = told();
        Due.refused(x, 0, ";".repeat(400), 1, 0);
        Due.refused(x, 0, "dust1" + "+1".repeat(197) + "+", 1, 400);
        Due.taken(x, 0, "dust1" + "+1".repeat(197) + ";", 1);
        due("198 is held to 99", x.of(0, 9), 99);
        Due.taken(x, 0, "worth 1" + "+1".repeat(196) + ";", 1);
        due("197", x.of(0, 10), 197);
    }

    private static void promise11FaultOnEitherSideOfAComparison() {
        CardDrawer x = told();
        Due.refused(x, 0, "dust 1 when 1/0<2;", 2, 14);
        Due.refused(x, 0, "dust 1 when 1<2/0;", 2, 16);
        Due.refused(x, 0, "dust 1 when 1/1<2/1 or 3/0<2;", 2, 25);
        Due.refused(x, 0, "dust 1 when (1/0<2);", 2, 15);
        Due.refused(x, 0, "dust 1 when not 1/0<2;", 2, 18);
        Due.refused(x, 0, "dust 1 when (1<2/0);", 2, 17);
    }

    private static void promise11ANewTextLeavesNothingOfTheOldOne() {
        CardDrawer x = new CardDrawer();
        Due.taken(x, 1, "person 0 by 11;person 11 by 10;person 5 by 6;", 3);
        Due.taken(x, 1, "person 6 by 5;", 1);
        for (int person = 0; person < 12; person++) {
            due("met(" + person + ")", x.met(person), person == 6 ? 5 : NONE);
        }
        Due.taken(x, 2, "firm 0 from 1 to 2;firm 7 from 3 to 4;firm 5 from 6 to 7;", 3);
        Due.taken(x, 2, "firm 6 from 8 to 9;", 1);
        for (int firm = 0; firm < 8; firm++) {
            due("called(" + firm + ", 0)", x.called(firm, 0), firm == 6 ? 8 : 0);
            due("called(" + firm + ", 1)", x.called(firm, 1), firm == 6 ? 9 : 99);
        }
    }

    private static void promise11ALongLawCanBeToldAnewAgainAndAgain() {
        CardDrawer x = told();
        for (int i = 0; i < 12; i++) {
            Due.taken(x, 0, "worth " + i + "+1".repeat(190) + ";", 1);
            due("of(0, 10)", x.of(0, 10), i + 190);
        }
    }

    private static void promise11NumbersHaveFourDigitsAtMost() {
        CardDrawer x = told();
        Due.taken(x, 0, "worth 9999;", 1);
        Due.taken(x, 0, "worth 0000;", 1);
        Due.taken(x, 0, "worth 0012;", 1);
        due("of(0, 10)", x.of(0, 10), 12);
        Due.refused(x, 0, "worth 00012;", 1, 6);
        Due.refused(x, 0, "worth 10000;", 1, 6);
        Due.refused(x, 0, "worth 1/00000;", 1, 8);
        Due.refused(x, 0, "worth " + "1".repeat(394), 1, 6);
        Due.refused(x, 1, "person 00001 by 2;", 1, 7);
        Due.taken(x, 1, "person 0001 by 0002;", 1);
        due("met(1)", x.met(1), 2);
    }

    private static void promise11SignsNextToDigits() {
        CardDrawer x = told();
        Due.refused(x, 0, "dust 1.;", 1, 6);
        Due.refused(x, 0, "dust 1:;", 1, 6);
        Due.taken(x, 0, "dust 1/9;", 1);
        Due.taken(x, 0, "dust 0;", 1);
        Due.taken(x, 0, "dust 9;", 1);
    }

    private static void promise11SignsThatAreNone() {
        CardDrawer x = told();
        for (char sign : "!\"#$%&',.:?@[\\]^_`{|}~".toCharArray()) {
            Due.refused(x, 0, "dust 1" + sign + "1;", 1, 6);
        }
        for (char sign : "+-*/".toCharArray()) {
            Due.taken(x, 0, "dust 1" + sign + "1;", 1);
        }
        for (char sign : "<=>".toCharArray()) {
            Due.taken(x, 0, "dust 1 when 1" + sign + "1;", 1);
            Due.refused(x, 0, "dust 1" + sign + "1;", 1, 6);
        }
    }

    private static void promise11TheFirstFaultByItsPlace() {
        CardDrawer x = told();
        Due.refused(x, 1, "person 12 by 13;", 2, 7);
        Due.refused(x, 1, "person 12 @", 2, 7);
        Due.refused(x, 1, "person @ by 12;", 1, 7);
        Due.refused(x, 2, "firm 8 from 100 to 100;", 2, 5);
        Due.refused(x, 2, "firm 7 from 100 to 5;", 2, 12);
        Due.refused(x, 0, "dust 1/0 when (((((((((1=1", 2, 7);
        Due.refused(x, 0, "dust 1 when (((((((((1/0", 3, 20);
        Due.refused(x, 0, "@" + "dust 1;".repeat(17), 1, 0);
    }

    private static void promise11AtOnePlaceTheLeastFault() {
        CardDrawer x = told();
        Due.refused(x, 1, "person 12345 by 1;", 1, 7);
        Due.refused(x, 2, "firm 1 from 10000 to 1;", 1, 12);
        Due.refused(x, 0, "dust ((((((((((1", 1, 5);
        Due.refused(x, 0, "dust 1 when 1=((((((((((1", 1, 14);
        Due.refused(x, 0, "dust 1;".repeat(16) + "when", 1, 112);
    }

    private static void promise11PartBy0() {
        CardDrawer x = told();
        Due.taken(x, 0, "dust 1/1;", 1);
        Due.taken(x, 0, "dust 1/0001;", 1);
        Due.taken(x, 0, "dust 0*0;", 1);
        Due.refused(x, 0, "dust 1/0;", 2, 7);
        Due.refused(x, 0, "dust 1/ 00;", 2, 8);
        Due.refused(x, 0, "dust 1/0000;", 2, 7);
        Due.refused(x, 0, "dust 1 when 1<2*3/0;", 2, 18);
        Due.refused(x, 0, "dust 0/0;", 2, 7);
    }

    private static void promise11PartByANumberAlone() {
        CardDrawer x = told();
        Due.refused(x, 0, "dust 1/age;", 1, 7);
        Due.refused(x, 0, "dust 1/(2);", 1, 7);
        Due.refused(x, 0, "dust 1/;", 1, 7);
        Due.taken(x, 0, "dust age/1*age;", 1);
    }

    private static void promise11PeopleOfMet() {
        CardDrawer x = new CardDrawer();
        Due.taken(x, 1, "person 0 by 11;", 1);
        Due.taken(x, 1, "person 11 by 0;", 1);
        Due.refused(x, 1, "person 12 by 0;", 2, 7);
        Due.refused(x, 1, "person 9999 by 0;", 2, 7);
        Due.refused(x, 1, "person 0 by 12;", 2, 12);
        Due.refused(x, 1, "person -1 by 2;", 1, 7);
        due("met(11)", x.met(11), 0);
    }

    private static void promise11OneselfInMet() {
        CardDrawer x = new CardDrawer();
        for (int person = 0; person < 10; person++) {
            Due.refused(x, 1, "person " + person + " by " + person + ";", 2, 12);
            Due.taken(x, 1, "person " + person + " by " + (person + 1) + ";", 1);
        }
        Due.refused(x, 1, "person 11 by 11;", 2, 13);
        Due.refused(x, 1, "person 01 by 1;", 2, 13);
    }

    private static void promise11FirmsOfCalled() {
        CardDrawer x = new CardDrawer();
        Due.taken(x, 2, "firm 0 from 1 to 2;", 1);
        Due.taken(x, 2, "firm 7 from 1 to 2;", 1);
        Due.refused(x, 2, "firm 8 from 1 to 2;", 2, 5);
        Due.refused(x, 2, "firm 9999 from 1 to 2;", 2, 5);
    }

    private static void promise11YearsOfCalled() {
        CardDrawer x = new CardDrawer();
        Due.taken(x, 2, "firm 0 from 0 to 99;", 1);
        Due.taken(x, 2, "firm 0 from 99 to 99;", 1);
        Due.taken(x, 2, "firm 0 from 0 to 0;", 1);
        Due.refused(x, 2, "firm 0 from 100 to 100;", 2, 12);
        Due.refused(x, 2, "firm 0 from 99 to 100;", 2, 18);
        Due.refused(x, 2, "firm 0 from 0 to 100;", 2, 17);
    }

    private static void promise11SecondYearThatIsLess() {
        CardDrawer x = new CardDrawer();
        Due.taken(x, 2, "firm 0 from 50 to 50;", 1);
        Due.taken(x, 2, "firm 0 from 50 to 51;", 1);
        Due.refused(x, 2, "firm 0 from 50 to 49;", 2, 18);
        Due.refused(x, 2, "firm 0 from 1 to 0;", 2, 17);
        Due.refused(x, 2, "firm 0 from 99 to 98;", 2, 18);
    }

    private static void promise11YearsOfAPlan() {
        CardDrawer x = new CardDrawer();
        Due.taken(x, 3, "in 0 throw 1;", 1);
        Due.taken(x, 3, "in 99 throw 1;", 1);
        Due.refused(x, 3, "in 100 throw 1;", 2, 3);
        Due.refused(x, 3, "in 9999 throw 1;", 2, 3);
    }

    private static void promise11HowManyAPlanThrows() {
        CardDrawer x = new CardDrawer();
        Due.taken(x, 3, "in 0 throw 1;", 1);
        Due.taken(x, 3, "in 0 throw 14;", 1);
        Due.refused(x, 3, "in 0 throw 0;", 2, 11);
        Due.refused(x, 3, "in 0 throw 15;", 2, 11);
    }

    private static void promise11WhomAPlanRings() {
        CardDrawer x = new CardDrawer();
        Due.taken(x, 3, "in 0 ring 0;", 1);
        Due.taken(x, 3, "in 0 ring 11;", 1);
        Due.refused(x, 3, "in 0 ring 12;", 2, 10);
    }

    private static void promise11CardThatThereIsNot() {
        CardDrawer x = new CardDrawer();
        for (String deed : new String[] {"bend", "find"}) {
            Due.refused(x, 3, "in 0 " + deed + " 0;", 2, 10);
        }
        for (int cards = 1; cards <= 9; cards++) {
            x.card(0, 0, 0, 0);
            for (String deed : new String[] {"bend", "find"}) {
                Due.taken(x, 3, "in 0 " + deed + " 0;", 1);
                Due.taken(x, 3, "in 0 " + deed + " " + (cards - 1) + ";", 1);
                Due.refused(x, 3, "in 0 " + deed + " " + cards + ";", 2, 10);
            }
        }
    }

    private static void promise11TheFourteenthCardInAPlan() {
        CardDrawer x = new CardDrawer();
        for (int i = 0; i < 14; i++) {
            x.card(0, 0, 0, 0);
        }
        Due.taken(x, 3, "in 0 bend 13;in 0 find 13;", 2);
        Due.refused(x, 3, "in 0 bend 14;", 2, 10);
        Due.refused(x, 3, "in 0 find 14;", 2, 10);
    }

    private static void promise11ThrownCardIsThereForAPlan() {
        CardDrawer x = told();
        x.toss(1);
        Due.taken(x, 3, "in 0 bend 0;in 0 find 0;", 2);
    }

    private static void promise11EightOpenAndTheNinth() {
        CardDrawer x = told();
        Due.taken(x, 0, "dust 1 when " + "(".repeat(8) + "1=1" + ")".repeat(8) + ";", 1);
        Due.refused(x, 0, "dust 1 when " + "(".repeat(9) + "1=1" + ")".repeat(9) + ";", 3, 20);
        Due.taken(x, 0, "dust 1 when " + "not ".repeat(8) + "1=1;", 1);
        Due.refused(x, 0, "dust 1 when " + "not ".repeat(9) + "1=1;", 3, 44);
        Due.taken(x, 0, "dust 1 when " + "not(".repeat(4) + "1=1" + ")".repeat(4) + ";", 1);
        Due.refused(x, 0, "dust 1 when " + "not(".repeat(4) + "not 1=1" + ")".repeat(4) + ";", 3, 28);
        Due.refused(x, 0, "dust 1 when " + "not(".repeat(4) + "(1=1)" + ")".repeat(4) + ";", 3, 28);
        Due.refused(x, 0, "dust 1 when " + "(".repeat(380), 3, 20);
    }

    private static void promise11WhatIsClosedIsOpenNoMore() {
        CardDrawer x = told();
        String eight = "(".repeat(8) + "1=1" + ")".repeat(8);
        Due.taken(x, 0, "dust 1 when " + eight + " and " + eight + " or " + eight + ";", 1);
        Due.taken(x, 0, "dust 1 when " + "not ".repeat(8) + "1=1 and " + "not ".repeat(8) + "1=1;", 1);
        Due.taken(x, 0, "dust 1 when ((((((((1=1) or (1=1)))))))) and (not 1=1);", 1);
        Due.refused(x, 0, "dust 1 when ((((((((1=1) or ((1=1", 3, 29);
    }

    private static void promise11ManyMoreClosedThanEight() {
        CardDrawer x = told();
        Due.taken(x, 0, "dust 6 when " + "not (1=2) and ".repeat(25) + "1=1;", 1);
        due("of(0, 9)", x.of(0, 9), 6);
    }

    // ---- 12: fault

    private static void promise12AnotherWhat() {
        CardDrawer x = told();
        Due.refused(x, 0, "dust 1/0;", 2, 7);
        for (int what : new int[] {-1, 2, MIN, MAX}) {
            due("fault(" + what + ")", x.fault(what), NONE);
        }
        due("fault(0)", x.fault(0), 2);
        due("fault(1)", x.fault(1), 7);
    }

    private static void promise12WithoutAText() {
        CardDrawer x = new CardDrawer();
        due("fault(0)", x.fault(0), 0);
        due("fault(1)", x.fault(1), NONE);
    }

    private static void promise12OfTheLatestText() {
        CardDrawer x = told();
        Due.refused(x, 0, "@", 1, 0);
        Due.refused(x, 0, "dust 1/0;", 2, 7);
        blanks(x);
        x.end(3);
        due("feed and end are no texts", x.fault(0), 2);
        due("its place", x.fault(1), 7);
        due("text(0)", x.text(0), 0);
        due("without one", x.fault(0), 0);
        due("no place", x.fault(1), NONE);
    }

    // ---- 13: of, and what THE LAW tells

    private static void promise13CardThatThereIsNot() {
        CardDrawer x = new CardDrawer();
        for (int i = 0; i < 14; i++) {
            for (int what = 0; what <= 10; what++) {
                due("of(" + i + ", " + what + ")", x.of(i, what), NONE);
            }
            x.card(1, 1, 1, 1);
            due("of(" + i + ", 0)", x.of(i, 0), 1);
        }
        for (int card : new int[] {-1, 14, MIN, MAX}) {
            due("of(" + card + ", 0)", x.of(card, 0), NONE);
            due("of(" + card + ", 8)", x.of(card, 8), NONE);
        }
    }

    private static void promise13AnotherWhat() {
        CardDrawer x = told();
        for (int what : new int[] {-1, 11, MIN, MAX}) {
            due("of(0, " + what + ")", x.of(0, what), NONE);
        }
        due("of(0, 0)", x.of(0, 0), 3);
        due("of(0, 10)", x.of(0, 10), 99);
    }

    private static void promise13CardThatIsNotKept() {
        CardDrawer x = told();
        x.toss(1);
        due("PERSON", x.of(0, 0), 3);
        due("KEPT", x.of(0, 7), 0);
        due("holds", x.of(0, 8), 900);
        due("dust", x.of(0, 9), 1);
        due("worth", x.of(0, 10), 99);
    }

    private static CardDrawer aged(int age) {
        CardDrawer x = new CardDrawer();
        x.card(0, 0, 0, 0);
        x.set(0, 0, age);
        return x;
    }

    private static void promise13HoldsWithoutALine() {
        due("age 0", aged(0).of(0, 8), 900);
        due("age 1", aged(1).of(0, 8), 880);
        due("age 44", aged(44).of(0, 8), 20);
        due("age 45", aged(45).of(0, 8), 0);
        due("age 46: held to 0", aged(46).of(0, 8), 0);
        due("age 99: held to 0", aged(99).of(0, 8), 0);
    }

    private static void promise13DustWithoutALine() {
        due("age 0", aged(0).of(0, 9), 0);
        due("age 8", aged(8).of(0, 9), 0);
        due("age 9", aged(9).of(0, 9), 1);
        due("age 17", aged(17).of(0, 9), 1);
        due("age 18", aged(18).of(0, 9), 2);
        due("age 98", aged(98).of(0, 9), 10);
        due("age 99", aged(99).of(0, 9), 11);
    }

    private static void promise13WorthWithoutALine() {
        due("age 0", aged(0).of(0, 10), 99);
        due("age 1", aged(1).of(0, 10), 98);
        due("age 98", aged(98).of(0, 10), 1);
        due("age 99", aged(99).of(0, 10), 0);
    }

    private static void promise13AgeIs0AtLeast() {
        CardDrawer x = new CardDrawer();
        x.card(0, 0, 0, 50);
        Due.taken(x, 0, "worth age+100;", 1);
        int[] now = {0, 49, 50, 51, 99};
        int[] worth = {100, 100, 100, 101, 149};
        for (int i = 0; i < now.length; i++) {
            x.set(0, 0, now[i]);
            due("age in " + now[i], x.of(0, 10), worth[i]);
        }
        x.text(0);
        x.set(0, 0, 0);
        due("holds", x.of(0, 8), 900);
        due("dust", x.of(0, 9), 0);
        due("worth", x.of(0, 10), 99);
    }

    private static int told(String law, int what) {
        CardDrawer x = aged(7);
        Due.taken(x, 0, law, law.replaceAll("[^;]", "").length());
        return x.of(0, what);
    }

    private static void promise13HoldsIsHeldTo1000() {
        due("0-1", told("holds 0-1;", 8), 0);
        due("0", told("holds 0;", 8), 0);
        due("1", told("holds 1;", 8), 1);
        due("999", told("holds 999;", 8), 999);
        due("1000", told("holds 1000;", 8), 1000);
        due("1001", told("holds 1001;", 8), 1000);
        due("9999*9999", told("holds 9999*9999;", 8), 1000);
        due("0-9999*9999", told("holds 0-9999*9999;", 8), 0);
    }

    private static void promise13DustIsHeldTo99() {
        due("0-1", told("dust 0-1;", 9), 0);
        due("0", told("dust 0;", 9), 0);
        due("1", told("dust 1;", 9), 1);
        due("98", told("dust 98;", 9), 98);
        due("99", told("dust 99;", 9), 99);
        due("100", told("dust 100;", 9), 99);
        due("9999", told("dust 9999;", 9), 99);
    }

    private static void promise13WorthIsHeldTo999() {
        due("0-1", told("worth 0-1;", 10), 0);
        due("0", told("worth 0;", 10), 0);
        due("1", told("worth 1;", 10), 1);
        due("998", told("worth 998;", 10), 998);
        due("999", told("worth 999;", 10), 999);
        due("1000", told("worth 1000;", 10), 999);
        due("9999", told("worth 9999;", 10), 999);
    }

    private static void promise13TheFirstLineThatIsSo() {
        due("the first of two", told("worth 1;worth 2;", 10), 1);
        due("the second", told("worth 1 when 1=2;worth 2;worth 3;", 10), 2);
        due("the sixteenth", told("worth 1 when 1=2;".repeat(15) + "worth 16;", 10), 16);
        due("none is so", told("worth 1 when 1=2;".repeat(16), 10), 92);
        due("another word's", told("dust 1;holds 2;", 10), 92);
        due("a word's first", told("dust 1;worth 2;dust 3;", 9), 1);
    }

    private static void promise13TheSixteenthLineByItsOwnWordsAlone() {
        String fifteen = "worth 1 when 1=2;".repeat(15);
        due("a sum of products", told(fifteen + "worth 2*3+4*5*6/7+8*9;", 10), 6 + 17 + 72);
        due("it is so", told(fifteen + "worth 5 when 2*3+4*5=2+4*6 and(1=2 or 1=1 and 1*2<1+1*2);", 10), 5);
        due("it is not so", told(fifteen + "worth 5 when 2*3+4*5=2+4*6 and(1=2 or 1=1 and 1*3<1+1*2);", 10), 92);
    }

    private static void promise13ComparedWithOneLessAndOneMore() {
        due("6 < age", told("worth 1 when 6<age;worth 2;", 10), 1);
        due("7 < age", told("worth 1 when 7<age;worth 2;", 10), 2);
        due("6 = age", told("worth 1 when 6=age;worth 2;", 10), 2);
        due("7 = age", told("worth 1 when 7=age;worth 2;", 10), 1);
        due("8 = age", told("worth 1 when 8=age;worth 2;", 10), 2);
        due("7 > age", told("worth 1 when 7>age;worth 2;", 10), 2);
        due("8 > age", told("worth 1 when 8>age;worth 2;", 10), 1);
    }

    /** Whether a line with this B is so. */
    private static void so(String b, boolean so) {
        due(b, told("worth 1 when " + b + ";worth 2;", 10), so ? 1 : 2);
    }

    private static void promise13OneOfSeveralOrIsEnough() {
        so("1=1 or 1=2 or 1=3", true);
        so("1=2 or 1=1 or 1=3", true);
        so("1=2 or 1=3 or 1=1", true);
        so("1=2 or 1=3 or 1=4", false);
        so("1=1 or 1=2 or 1=3 or 1=4", true);
    }

    private static void promise13EachOfSeveralAndIsNeeded() {
        so("1=1 and 2=2 and 3=3", true);
        so("1=2 and 2=2 and 3=3", false);
        so("1=1 and 2=1 and 3=3", false);
        so("1=1 and 2=2 and 3=1", false);
    }

    private static void promise13AndBindsMoreThanOr() {
        so("1=1 or 1=1 and 1=2", true);
        so("1=2 and 1=1 or 1=1", true);
        so("1=2 and 1=2 or 1=2 or 1=1 and 1=1", true);
        so("1=1 and 1=1 or 1=2 and 1=2 or 1=2", true);
        so("1=1 and 1=2 or 1=2 or 1=2 and 1=1", false);
        so("(1=1 or 1=1) and 1=2", false);
    }

    private static void promise13NotIsOfOneCAlone() {
        for (String c : new String[] {"1<2", "2>1", "1=1"}) {
            so(c, true);
            so("not " + c, false);
            so("not not " + c, true);
            so("not(" + c + ")", false);
            so(c + " and 1=1", true);
            so("1=1 and " + c, true);
            so("not " + c + " or 1=1", true);
            so("not 1=2 and " + c, true);
            so("not (1=2 and " + c + ")", true);
            so("not not not not not not not " + c, false);
            so("not not not not not not not not " + c, true);
        }
    }

    private static void promise13BelowZeroIsCompared() {
        due("0-1<0", told("worth 1 when 0-1<0;worth 2;", 10), 1);
        due("0-1<0-1", told("worth 1 when 0-1<0-1;worth 2;", 10), 2);
        due("0-2<0-1", told("worth 1 when 0-2<0-1;worth 2;", 10), 1);
    }

    private static void promise13ProductsWrap() {
        due("2099580021", told("worth 1 when 9999*9999*21>0;worth 2;", 10), 1);
        due("2199560022", told("worth 1 when 9999*9999*22>0;worth 2;", 10), 2);
    }

    private static void promise13SumsWrap() {
        due("2147483647", told("worth 1 when 9999*9999*21+9999*4790+8416>0;worth 2;", 10), 1);
        due("2147483648", told("worth 1 when 9999*9999*21+9999*4790+8417>0;worth 2;", 10), 2);
        due("-2147483648", told("worth 1 when 0-9999*9999*21-9999*4790-8417<0;worth 2;", 10), 1);
        due("-2147483649", told("worth 1 when 0-9999*9999*21-9999*4790-8418<0;worth 2;", 10), 2);
    }

    private static void promise13PartsGoTowards0() {
        due("7/1", told("worth 7/1;", 10), 7);
        due("0/1", told("worth 0/1;", 10), 0);
        due("7/2", told("worth 7/2;", 10), 3);
        due("8/9", told("worth 8/9;", 10), 0);
        due("9/9", told("worth 9/9;", 10), 1);
        due("9998/9999", told("worth 9998/9999;", 10), 0);
        // -2095407274 by 9999 is -209561 and a part, and 9999*20+9582 is 209562.
        due("below 0", told("worth 9999*9999*22/9999+9999*20+9582;", 10), 1);
    }

    private static void promise13AllWordsOfACard() {
        CardDrawer x = new CardDrawer();
        x.card(11, 7, 5, 99);
        x.set(0, 0, 99);
        x.set(2, 0, 98);
        String[] word = {"person", "firm", "trade", "year", "bent", "worn", "rung", "age", "now"};
        int[] value = {11, 7, 5, 99, 0, 98, 0, 0, 99};
        for (int i = 0; i < word.length; i++) {
            Due.taken(x, 0, "worth " + word[i] + "+500;", 1);
            due(word[i], x.of(0, 10), value[i] + 500);
        }
        x.set(0, 0, 0);
        x.set(1, 0, 0);
        x.set(2, 0, 0);
        x.does(0, false);
        Due.taken(x, 0, "worth year+now+worn+bent;", 1);
        due("the least ones, and BENT", x.of(0, 10), 1);
    }

    // ---- 14: met

    private static void promise14PersonFrom0To11() {
        CardDrawer x = new CardDrawer();
        Due.taken(x, 1, "person 0 by 11;person 11 by 10;", 2);
        due("met(0)", x.met(0), 11);
        due("met(11)", x.met(11), 10);
        for (int person : new int[] {-1, 12, MIN, MAX}) {
            due("met(" + person + ")", x.met(person), NONE);
        }
    }

    private static void promise14Nobody() {
        CardDrawer x = new CardDrawer();
        Due.taken(x, 1, "person 5 by 0;", 1);
        due("met(5)", x.met(5), 0);
        due("met(0)", x.met(0), NONE);
        due("met(4)", x.met(4), NONE);
        due("met(6)", x.met(6), NONE);
    }

    private static void promise14OfSeveralLinesTheFirst() {
        CardDrawer x = new CardDrawer();
        Due.taken(x, 1, "person 5 by 1;person 6 by 2;person 5 by 3;person 6 by 0;person 5 by 0;", 5);
        due("met(5)", x.met(5), 1);
        due("met(6)", x.met(6), 2);
        due("lines all the same", x.look(9), 5);
        Due.taken(x, 1, "person 5 by 3;person 5 by 1;", 2);
        due("met(5) of the new text", x.met(5), 3);
        due("met(6) of the new text", x.met(6), NONE);
    }

    // ---- 15: called

    private static void promise15FirmFrom0To7() {
        CardDrawer x = new CardDrawer();
        Due.taken(x, 2, "firm 0 from 1 to 2;firm 7 from 3 to 4;", 2);
        due("called(0, 0)", x.called(0, 0), 1);
        due("called(0, 1)", x.called(0, 1), 2);
        due("called(7, 0)", x.called(7, 0), 3);
        due("called(7, 1)", x.called(7, 1), 4);
        for (int firm : new int[] {-1, 8, MIN, MAX}) {
            due("called(" + firm + ", 0)", x.called(firm, 0), NONE);
            due("called(" + firm + ", 1)", x.called(firm, 1), NONE);
        }
    }

    private static void promise15AnotherWhat() {
        CardDrawer x = told();
        for (int what : new int[] {-1, 2, MIN, MAX}) {
            due("called(1, " + what + ")", x.called(1, what), NONE);
        }
    }

    private static void promise15WithoutALine() {
        CardDrawer x = told();
        for (int firm : new int[] {0, 2, 7}) {
            due("called(" + firm + ", 0)", x.called(firm, 0), 0);
            due("called(" + firm + ", 1)", x.called(firm, 1), 99);
        }
    }

    private static void promise15OfSeveralLinesTheLast() {
        CardDrawer x = new CardDrawer();
        Due.taken(x, 2, "firm 1 from 10 to 20;firm 2 from 3 to 4;firm 1 from 5 to 6;", 3);
        due("called(1, 0)", x.called(1, 0), 5);
        due("called(1, 1)", x.called(1, 1), 6);
        due("called(2, 0)", x.called(2, 0), 3);
        due("lines all the same", x.look(10), 3);
        Due.taken(x, 2, "firm 2 from 7 to 8;", 1);
        due("of the new text", x.called(1, 1), 99);
        due("of the new text", x.called(2, 0), 7);
    }

    private static void promise15FirstAndLastYears() {
        CardDrawer x = new CardDrawer();
        Due.taken(x, 2, "firm 1 from 0 to 0;firm 2 from 99 to 99;firm 3 from 0 to 99;", 3);
        due("called(1, 1)", x.called(1, 1), 0);
        due("called(2, 0)", x.called(2, 0), 99);
        due("called(3, 0)", x.called(3, 0), 0);
        due("called(3, 1)", x.called(3, 1), 99);
    }
}
