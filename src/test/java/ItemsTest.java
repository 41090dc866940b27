/** "What it is": the sentences about a TEXT and its ITEMS, each with its bounds, and FAULT. */
public final class ItemsTest {
    private static final int FULL = SevenOnStrike.FULL, NONE = SevenOnStrike.NONE;
    private static final int LEAST_LETTER = 32, MOST_LETTER = 126;

    public static void main(String[] args) {
        textOfNoLetters();
        textOf200Letters();
        itemsAreOneBehindTheOther();
        eachIsALetterFirst();
        eachHasItsEndBehindIt();
        faultIsWhereItsItemBegins();
        strikesAreOf0To9();
        strikesToldOnceMore();
        standInsAreOf0To9();
        standInsAreTheLastOfEach();
        standInsAreThemselvesWithout();
        coinsAreOf1To99();
        coinsAreOfNoneToldAhead();
        coinsAre6AtMost();
        diceHave2To9Sides();
        weeksHave1To9Days();
        theLastOneCountsButAllMustBeSo();
        sumsHave20LettersAtMost();
        numbersHaveOneToFourFigures();
        numbersHaveOneSignBetween();
        noughtsAheadAreFigures();
        withoutASum();
        Due.end();
    }

    private static void faultAt(int place, String text) {
        Due.is("fault of " + text, Due.faultOf(text), place);
    }

    private static void faultless(String text) {
        faultAt(NONE, text);
    }

    private static void textOfNoLetters() {
        faultless("");
        SevenOnStrike x = new SevenOnStrike();
        Due.is("lay of no letters", x.lay(), 0);
        Due.is("no figure is on strike then", x.figure(7, 0), 0);
        Due.is("nor does another one stand in", x.figure(7, 1), 7);
        Due.is("no coin is told", x.coin(0), SevenOnStrike.BAD);
    }

    private static void textOf200Letters() {
        String most = "x1;".repeat(65) + "f1,2;";
        Due.is("its letters", most.length(), 200);
        SevenOnStrike x = new SevenOnStrike();
        Due.is("the last letter that comes behind", Due.write(x, most), 200);
        Due.is("one letter more", x.write(';'), FULL);
        Due.is("fault", x.fault(), NONE);
        Due.is("lay", x.lay(), 1);
        Due.is("the last item counts", x.figure(1, 1), 2);
        faultAt(198, "x1;".repeat(66) + "x1");
        faultAt(199, "x1;".repeat(65) + "c10;" + "x");
        faultAt(0, "e" + "1".repeat(199));
        faultAt(0, ";".repeat(200));
        faultAt(0, " ".repeat(200));
        Due.is("200 letters whose last one is cut off", Due.faultOf("x1;".repeat(66) + "x1;"), 198);
    }

    private static void itemsAreOneBehindTheOther() {
        faultless("x1;f2,3;c4;d5;w6;e7;");
        faultless("e7;w6;d5;c4;f2,3;x1;");
        faultAt(3, "x1; x2;");
        faultAt(3, "x1;;x2;");
        faultAt(3, "x1;,x2;");
        faultAt(0, " x1;");
        faultAt(3, "x1; ");
        faultAt(0, "x1x2;");
        faultAt(0, "x1,2;");
        faultAt(0, "c1,2;");
    }

    private static void eachIsALetterFirst() {
        for (int letter = LEAST_LETTER; letter <= MOST_LETTER; letter++) {
            faultAt("xcdwe".indexOf(letter) >= 0 ? NONE : 0, (char) letter + "5;");
            faultAt(letter == 'f' ? NONE : 0, (char) letter + "5,5;");
            faultAt("xcdwe".indexOf(letter) >= 0 ? NONE : 3, "x1;" + (char) letter + "5;");
        }
    }

    private static void eachHasItsEndBehindIt() {
        for (String item : new String[] {"x1", "f2,3", "c4", "d5", "w6", "e7", "e7*8"}) {
            faultAt(0, item);
            faultAt(3, "x1;" + item);
            for (int letter = LEAST_LETTER; letter <= MOST_LETTER; letter++) {
                boolean goesOn = item.equals("c4") && Character.isDigit(letter)
                    || item.startsWith("e") && Character.isDigit(letter);
                faultAt(letter == ';' || goesOn ? NONE : 0, item + (char) letter + (goesOn ? ";" : ""));
            }
        }
    }

    private static void faultIsWhereItsItemBegins() {
        String[] items = {"x1;", "f2,3;", "c44;", "d5;", "w6;", "e7+8*9;"};
        String[] wrong = {"x10;", "f2,10;", "c0;", "d1;", "w0;", "e7+8*;"};
        for (int first = 0; first < items.length; first++) {
            StringBuilder text = new StringBuilder();
            int place = 0;
            for (int i = 0; i < items.length; i++) {
                place = i == first ? text.length() : place;
                text.append(i == first || i == first + 2 ? wrong[i] : items[i]);
            }
            faultAt(place, text.toString());
        }
    }

    /** An item of one number, told with each row of one to three figures. */
    private static void numbersOf(String ahead, String behind, int least, int most) {
        faultAt(0, ahead + behind);
        for (int n = 0; n <= 999; n++) {
            for (int figures = String.valueOf(n).length(); figures <= 3; figures++) {
                boolean isSo = figures <= 2 && n >= least && n <= most;
                faultAt(isSo ? NONE : 0, ahead + String.format("%0" + figures + "d", n) + behind);
            }
        }
        faultAt(0, ahead + "-1" + behind);
        faultAt(0, ahead + "+1" + behind);
        faultAt(0, ahead + "a" + behind);
        faultAt(0, ahead + "0x" + behind);
    }

    private static void strikesAreOf0To9() {
        numbersOf("x", ";", 0, 9);
        for (int f = 0; f <= 9; f++) {
            Due.is("x" + f, Due.laid("x" + f + ";").figure(f, 0), 1);
            Due.is("x0" + f, Due.laid("x0" + f + ";").figure(f, 0), 1);
        }
        Due.is("all ten", Due.laid("x0;x1;x2;x3;x4;x5;x6;x7;x8;x9;").count(0), 10);
    }

    private static void strikesToldOnceMore() {
        SevenOnStrike x = Due.laid("x0;x9;x0;x09;x9;");
        Due.is("count(0)", x.count(0), 2);
        Due.is("figure(0, 0)", x.figure(0, 0), 1);
        Due.is("figure(9, 0)", x.figure(9, 0), 1);
    }

    private static void standInsAreOf0To9() {
        numbersOf("f", ",5;", 0, 9);
        numbersOf("f5,", ";", 0, 9);
        for (int f = 0; f <= 9; f++) {
            Due.is("f" + f + ",9", Due.laid("f" + f + ",9;").figure(f, 1), 9);
            Due.is("f9," + f, Due.laid("f9," + f + ";").figure(9, 1), f);
            Due.is("nobody strikes by it", Due.laid("f" + f + ",0;").count(0), 0);
        }
    }

    private static void standInsAreTheLastOfEach() {
        SevenOnStrike x = Due.laid("f1,2;f3,4;f1,5;f3,3;f1,6;");
        Due.is("figure(1, 1)", x.figure(1, 1), 6);
        Due.is("figure(3, 1)", x.figure(3, 1), 3);
        Due.is("figure(2, 1)", x.figure(2, 1), 2);
    }

    private static void standInsAreThemselvesWithout() {
        SevenOnStrike x = Due.laid("x4;f7,0;");
        for (int f = 0; f <= 9; f++) {
            Due.is("figure(" + f + ", 1)", x.figure(f, 1), f == 7 ? 0 : f);
        }
    }

    private static void coinsAreOf1To99() {
        numbersOf("c", ";", 1, 99);
        Due.is("c1", Due.laid("c1;").coin(0), 1);
        Due.is("c01", Due.laid("c01;").coin(0), 1);
        Due.is("c99", Due.laid("c99;").coin(0), 99);
    }

    private static void coinsAreOfNoneToldAhead() {
        faultAt(3, "c1;c1;");
        faultAt(3, "c1;c01;");
        faultAt(4, "c99;c99;");
        faultAt(15, "c1;c2;c3;c4;c5;c1;");
        faultAt(15, "c1;c2;c3;c4;c5;c5;");
        faultless("c1;c10;c11;");
    }

    private static void coinsAre6AtMost() {
        SevenOnStrike x = Due.laid("c60;c5;c40;c3;c20;c1;");
        int[] coins = {60, 5, 40, 3, 20, 1};
        for (int k = 0; k < coins.length; k++) {
            Due.is("coin(" + k + ")", x.coin(k), coins[k]);
        }
        Due.is("count(1)", x.count(1), 6);
        Due.is("coin(6)", x.coin(6), SevenOnStrike.BAD);
        faultAt(18, "c1;c2;c3;c4;c5;c6;c7;");
        faultAt(18, "c1;c2;c3;c4;c5;c6;c6;");
        faultAt(21, "c1;c2;c3;c4;c5;c6;x1;c7;");
    }

    private static void diceHave2To9Sides() {
        numbersOf("d", ";", 2, 9);
        Due.is("without", Due.laid("w2;").count(2), 6);
        for (int n = 2; n <= 9; n++) {
            Due.is("d" + n, Due.laid("d" + n + ";").count(2), n);
        }
    }

    private static void weeksHave1To9Days() {
        numbersOf("w", ";", 1, 9);
        Due.is("without", Due.laid("d2;").count(3), 7);
        for (int n = 1; n <= 9; n++) {
            Due.is("w" + n, Due.laid("w" + n + ";").count(3), n);
        }
    }

    private static void theLastOneCountsButAllMustBeSo() {
        Due.is("d2;d9;d3;", Due.laid("d2;d9;d3;").count(2), 3);
        Due.is("w1;w9;w3;", Due.laid("w1;w9;w3;").count(3), 3);
        Due.is("e1*2*3;e4;", Due.laid("e1*2*3;e4;").sum(0), 4);
        Due.is("e1*2*3;e4; has one", Due.laid("e1*2*3;e4;").sum(2), 1);
        Due.is("e4;e1*2*3;", Due.laid("e4;e1*2*3;").sum(2), 3);
        faultAt(0, "d1;d2;");
        faultAt(3, "d2;d10;d2;");
        faultAt(0, "w0;w1;");
        faultAt(3, "w1;w10;w1;");
        faultAt(0, "f1,10;f1,1;");
        faultAt(0, "e1+;e1;");
        faultAt(3, "e1;e12345;e1;");
        faultAt(0, "c0;c1;");
        faultAt(0, "x10;x1;");
    }

    private static void sumsHave20LettersAtMost() {
        for (int letters = 1; letters <= 40; letters++) {
            String ones = letters % 2 == 1 ? "1" : "11";
            String sum = ones + "+1".repeat((letters - ones.length()) / 2);
            faultAt(letters <= 20 ? NONE : 0, "e" + sum + ";");
            faultAt(letters <= 20 ? NONE : 3, "x1;e" + sum + ";");
        }
        faultless("e1234*1234*1234*1234;");
        faultless("e1234*1234*1234*123*1;");
        faultAt(0, "e1234*1234*1234*1234*;");
        faultAt(0, "e1234*1234*1234*1234*1;");
        faultAt(0, "e1234*1234*1234*12345;");
        faultAt(0, "e1234*1234*1234*123*;");
        faultAt(0, "e1234*1234*1234*123*12;");
        SevenOnStrike x = Due.laid("e9+9+9+9+9+9+9+9+9+19;");
        Due.is("all 20 letters count", x.sum(0), 9 * 9 + 19);
        Due.is("all its numbers count", x.sum(2), 10);
    }

    private static void numbersHaveOneToFourFigures() {
        for (int figures = 0; figures <= 19; figures++) {
            String number = "9".repeat(figures);
            int place = figures >= 1 && figures <= 4 ? NONE : 0;
            faultAt(place, "e" + number + ";");
            faultAt(place, "e1+" + number + ";");
            faultAt(place, "e" + number + "*1;");
            faultAt(place, "e1+" + number + "-1;");
        }
        Due.is("four figures", Due.laid("e9876;").sum(0), 9876);
    }

    private static void numbersHaveOneSignBetween() {
        for (int letter = LEAST_LETTER; letter <= MOST_LETTER; letter++) {
            boolean isSo = Character.isDigit(letter) || letter == '+' || letter == '-' || letter == '*';
            faultAt(isSo ? NONE : letter == ';' ? 3 : 0, "e1" + (char) letter + "1;");
        }
        for (String first : new String[] {"+", "-", "*"}) {
            faultAt(0, "e" + first + ";");
            faultAt(0, "e" + first + "1;");
            faultAt(0, "e1" + first + ";");
            for (String second : new String[] {"+", "-", "*"}) {
                faultAt(0, "e1" + first + second + "1;");
                faultless("e1" + first + "1" + second + "1;");
            }
        }
    }

    private static void noughtsAheadAreFigures() {
        faultless("e0;");
        faultless("e0000;");
        faultAt(0, "e00000;");
        faultAt(0, "e00001;");
        SevenOnStrike x = Due.laid("x0;f0,3;e0001;");
        Due.is("worth", x.sum(0), 1);
        Due.is("heard", x.sum(1), 3331);
    }

    private static void withoutASum() {
        SevenOnStrike x = Due.laid("x0;f0,9;x1;f1,8;");
        for (int f = 2; f <= 9; f++) {
            Due.is("worth", x.sum(0), 0);
            Due.is("heard", x.sum(1), 0);
            Due.is("its numbers", x.sum(2), 0);
            x.strike(f, 1);
        }
        SevenOnStrike y = new SevenOnStrike();
        y.lay();
        Due.is("the sum told at first is gone", y.sum(0), 0);
    }
}
