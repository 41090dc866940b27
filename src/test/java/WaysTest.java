/** Promises 16 to 22: ways, shortest, change, never, pays, day, agree. */
public final class WaysTest {
    private static final int BAD = SevenOnStrike.BAD, NONE = SevenOnStrike.NONE;
    private static final int[] WRONG = {-1, Integer.MIN_VALUE, Integer.MAX_VALUE};
    private static final String ALL = "x0;x1;x2;x3;x4;x5;x6;x7;x8;x9;";

    public static void main(String[] args) {
        ways();
        waysOfEachKindWithTheirBounds();
        shortest();
        shortestOfSeveral();
        shortestIsBadBeforeNone();
        change();
        never();
        pays();
        coinsThatCanBeNamed();
        upTo200();
        day();
        agree();
        weeksOfAllLengths();
        wrongNumbers();
        Due.end();
    }

    private static void ways() {
        SevenOnStrike all = Due.laid("");
        Due.is("ways(0)", all.ways(0), 1 + 1 + 999 + 1000);
        Due.is("ways(1)", all.ways(1), 1 + 1 + 998 + 1);
        Due.is("ways(12)", all.ways(12), 1 + 7 + 987 + 3);
        Due.is("ways(999)", all.ways(999), 1 + 500 + 0 + 4);
        Due.is("ways(998)", all.ways(998), 1 + 500 + 1 + 2);
        SevenOnStrike ones = Due.laid("x0;x2;x3;x4;x5;x6;x7;x8;x9;");
        Due.is("ones: ways(1)", ones.ways(1), 2);
        Due.is("ones: ways(2)", ones.ways(2), 1);
        Due.is("ones: ways(10)", ones.ways(10), 1);
        Due.is("ones: ways(0)", ones.ways(0), 3);
        Due.is("ones: ways(121)", ones.ways(121), 1);
        Due.is("ones: ways(3)", ones.ways(3), 0);
        Due.is("none: ways(0)", Due.laid(ALL).ways(0), 0);
        ones.strike(0, 1);
        ones.strike(0, 0);
        Due.is("as things stand: ways(0)", ones.ways(0), 1 + 1 + 7 + 8);
        ones.undo();
        Due.is("undone: ways(0)", ones.ways(0), 3);
    }

    /** Two numbers that can be said, or some few: each way is told behind its row. */
    private static void waysOfEachKindWithTheirBounds() {
        SevenOnStrike nines = Due.laid("x0;x1;x2;x3;x4;x5;x6;x7;x8;");
        Due.is("999: by itself", nines.ways(999), 1);
        Due.is("0: 9-9, 99-99, 999-999", nines.ways(0), 3);
        Due.is("18: 9+9, not twice", nines.ways(18), 1);
        Due.is("108: 9+99, not 99+9 too", nines.ways(108), 1);
        Due.is("90: 99-9", nines.ways(90), 1);
        Due.is("900: 999-99", nines.ways(900), 1);
        Due.is("990: 999-9", nines.ways(990), 1);
        Due.is("81: 9*9", nines.ways(81), 1);
        Due.is("891: 9*99, not 99*9 too", nines.ways(891), 1);
        Due.is("198: 99+99", nines.ways(198), 1);
        Due.is("9: by itself", nines.ways(9), 1);
        SevenOnStrike noughts = Due.laid("x1;x2;x3;x4;x5;x6;x7;x8;x9;");
        Due.is("0: by itself, 0+0, 0*0, but not 0-0", noughts.ways(0), 3);
        Due.is("1", noughts.ways(1), 0);
        Due.is("999", noughts.ways(999), 0);
        SevenOnStrike both = Due.laid("x1;x2;x3;x4;x5;x6;x7;x8;");
        Due.is("999: by itself, 0+999, 9+990, 90+909, 99+900, but not 999-0", both.ways(999), 5);
        Due.is("9: by itself, 0+9, 99-90, 909-900, 999-990", both.ways(9), 5);
        Due.is("0: by itself, 0+0, seven -, eight *", both.ways(0), 1 + 1 + 7 + 8);
        SevenOnStrike ones = Due.laid("x0;x3;x4;x5;x6;x7;x8;x9;");
        Due.is("1: by itself, 1*1", ones.ways(1), 1 + waysLess(1) + 1);
        Due.is("4: 2+2, 2*2", ones.ways(4), 2 + waysLess(4));
        Due.is("2: by itself, 1+1, 1*2", ones.ways(2), 3 + waysLess(2));
    }

    /** In how many ways n is a - b of numbers written with 1 and 2 alone. */
    private static int waysLess(int n) {
        int many = 0;
        for (int b = 1; b + n <= 999; b++) {
            many += String.valueOf(b).matches("[12]+") && String.valueOf(b + n).matches("[12]+") ? 1 : 0;
        }
        return many;
    }

    private static void shortestOfSeveral() {
        SevenOnStrike x = Due.laid("");
        shortestIs(x, 1, 1, 0, 1, 0);
        shortestIs(x, 100, 3, 0, 100, 0);
        SevenOnStrike seven = Due.laid("x7;");
        shortestIs(seven, 7, 3, 1, 1, 6);
        SevenOnStrike fortyFive = Due.laid("x2;x4;x6;x7;x8;x9;");
        shortestIs(fortyFive, 45, 4, 2, 50, 5);
        SevenOnStrike twentyFour = Due.laid("x2;");
        shortestIs(twentyFour, 24, 3, 3, 3, 8);
        shortestIs(twentyFour, 2, 3, 1, 1, 1);
        SevenOnStrike noughtsAndNines = Due.laid("x1;x2;x3;x4;x5;x6;x7;x8;");
        shortestIs(noughtsAndNines, 81, 3, 3, 9, 9);
        shortestIs(noughtsAndNines, 18, 3, 1, 9, 9);
        shortestIs(noughtsAndNines, 999, 3, 0, 999, 0);
        shortestIs(noughtsAndNines, 810, 4, 3, 9, 90);
        shortestIs(noughtsAndNines, 1, NONE, NONE, NONE, NONE);
    }

    private static void shortestIs(SevenOnStrike x, int n, int... want) {
        for (int what = 0; what < 4; what++) {
            Due.is("shortest(" + n + ", " + what + ")", x.shortest(n, what), want[what]);
        }
    }

    private static void shortest() {
        SevenOnStrike x = new SevenOnStrike();
        shortestIs(x, 0, 1, 0, 0, 0);
        shortestIs(x, 999, 3, 0, 999, 0);
        shortestIs(x, 7, 3, 1, 1, 6);
        shortestIs(x, 70, 4, 1, 1, 69);
        shortestIs(x, 72, 3, 3, 8, 9);
        shortestIs(x, 777, 5, 3, 3, 259);
        shortestIs(x, 770, 5, 3, 2, 385);
        shortestIs(x, 773, 6, 1, 80, 693);
        SevenOnStrike noughtless = Due.laid("x0;");
        shortestIs(noughtless, 0, 3, 2, 1, 1);
        shortestIs(noughtless, 10, 3, 1, 1, 9);
        shortestIs(noughtless, 20, 3, 3, 4, 5);
        SevenOnStrike ones = Due.laid("x0;x2;x3;x4;x5;x6;x7;x8;x9;");
        shortestIs(ones, 100, 6, 2, 111, 11);
        shortestIs(ones, 121, 5, 3, 11, 11);
        shortestIs(ones, 3, NONE, NONE, NONE, NONE);
        SevenOnStrike many = Due.laid("x6;");
        shortestIs(many, 6, 3, 1, 1, 5);
    }

    private static void shortestIsBadBeforeNone() {
        SevenOnStrike x = Due.laid(ALL);
        Due.is("shortest(5, 4) of none", x.shortest(5, 4), BAD);
        Due.is("shortest(5, -1) of none", x.shortest(5, -1), BAD);
        Due.is("day(10000) of none", x.day(10000), BAD);
        Due.is("change(201) of none", x.change(201), BAD);
    }

    private static void change() {
        SevenOnStrike x = Due.laid("c1;c15;c20;");
        Due.is("change(0)", x.change(0), 0);
        Due.is("change(30), not 20 first", x.change(30), 2);
        Due.is("change(19)", x.change(19), 5);
        Due.is("change(200)", x.change(200), 10);
        x.strike(1, 1);
        Due.is("change(30) without 1", x.change(30), NONE);
        Due.is("change(40) without 1", x.change(40), 2);
        x.strike(2, 1);
        Due.is("change(0) without any", x.change(0), 0);
        Due.is("change(40) without any", x.change(40), NONE);
        Due.is("two hundred coins of 1", Due.laid("c1;").change(200), 200);
    }

    private static void never() {
        Due.is("c1", Due.laid("c1;").never(), NONE);
        Due.is("c3, c5", Due.laid("c3;c5;").never(), 7);
        Due.is("c2", Due.laid("c2;").never(), 199);
        Due.is("no coins", Due.laid("").never(), 200);
        Due.is("c1 on strike", Due.laid("c1;x1;c3;c5;").never(), 7);
        Due.is("c99, c98", Due.laid("c99;c98;").never(), 200);
        Due.is("c2, c3", Due.laid("c2;c3;").never(), 1);
    }

    private static void pays() {
        SevenOnStrike x = Due.laid("c1;c2;c5;");
        Due.is("pays(0)", x.pays(0), 1);
        Due.is("pays(1)", x.pays(1), 1);
        Due.is("pays(10)", x.pays(10), 10);
        x.strike(2, 1);
        Due.is("pays(10) without 2", x.pays(10), 3);
        x.strike(1, 1);
        Due.is("pays(11) with 5 alone", x.pays(11), 0);
        Due.is("pays(10) with 5 alone", x.pays(10), 1);
        Due.is("pays(200) of six", Due.laid("c1;c2;c3;c4;c5;c6;").pays(200), partitions(200, 6));
        Due.is("the order does not matter", Due.laid("c6;c2;c1;c4;c5;c3;").pays(199), partitions(199, 6));
        Due.is("pays(0) of none", Due.laid("").pays(0), 1);
        Due.is("pays(1) of none", Due.laid("").pays(1), 0);
    }

    private static int partitions(int n, int most) {
        if (most == 1) {
            return 1;
        }
        int ways = 0;
        for (int rest = n; rest >= 0; rest -= most) {
            ways += partitions(rest, most - 1);
        }
        return ways;
    }

    private static void coinsThatCanBeNamed() {
        SevenOnStrike x = Due.laid("x0;c05;c10;");
        Due.is("5 is written without a nought", x.change(5), 1);
        Due.is("10 is not named", x.change(10), 2);
        Due.is("pays(10)", x.pays(10), 1);
        x.strike(0, 0);
        Due.is("10 is named again", x.change(10), 1);
        Due.is("pays(10) then", x.pays(10), 2);
        x.strike(5, 1);
        Due.is("5 is not named", x.change(5), NONE);
        Due.is("pays(5)", x.pays(5), 0);
        Due.is("never()", x.never(), 199);
        Due.is("a coin is told all the same", x.coin(0), 5);
        SevenOnStrike all = Due.laid(ALL + "c1;c2;c3;");
        Due.is("none is named: change(0)", all.change(0), 0);
        Due.is("none is named: pays(0)", all.pays(0), 1);
        Due.is("none is named: pays(200)", all.pays(200), 0);
        Due.is("none is named: never()", all.never(), 200);
    }

    private static void upTo200() {
        SevenOnStrike big = Due.laid("c99;c98;c97;c96;c95;c94;");
        Due.is("change(93)", big.change(93), NONE);
        Due.is("change(94)", big.change(94), 1);
        Due.is("change(99)", big.change(99), 1);
        Due.is("change(187)", big.change(187), NONE);
        Due.is("change(188)", big.change(188), 2);
        Due.is("change(198)", big.change(198), 2);
        Due.is("change(199)", big.change(199), NONE);
        Due.is("change(200)", big.change(200), NONE);
        Due.is("pays(196) is 98+98, 97+99", big.pays(196), 2);
        Due.is("pays(198)", big.pays(198), 1);
        Due.is("never()", big.never(), 200);
        SevenOnStrike most = Due.laid("c1;c2;");
        Due.is("change(200)", most.change(200), 100);
        Due.is("change(199)", most.change(199), 100);
        Due.is("pays(200)", most.pays(200), 101);
        Due.is("never()", most.never(), NONE);
        Due.is("all but 1 are made", Due.laid("c2;c3;").never(), 1);
        Due.is("200 is made, 199 not", Due.laid("c50;c40;").never(), 199);
        Due.is("199 is made, 200 not", Due.laid("c99;c67;c33;").never(), lastNotMade(99, 67, 33));
        Due.is("three coins, far below", Due.laid("c99;c67;c3;").never(), lastNotMade(99, 67, 3));
    }

    private static int lastNotMade(int a, int b, int c) {
        for (int n = 200; n >= 1; n--) {
            boolean made = false;
            for (int i = 0; i * a <= n; i++) {
                for (int j = 0; i * a + j * b <= n; j++) {
                    made |= (n - i * a - j * b) % c == 0;
                }
            }
            if (!made) {
                return n;
            }
        }
        return NONE;
    }

    private static void day() {
        Fresh x = new Fresh("w5;x2;x4;");
        int[] week = {1, 3, 5};
        for (int n = 0; n <= 9999; n++) {
            Due.is("day(" + n + ")", x.get().day(n), week[n % 3]);
        }
        Due.is("0 is no day", Due.laid("w1;x0;").day(9999), 1);
        Due.is("a strike beyond the week", Due.laid("w3;x4;").day(3), 1);
        Due.is("all left out", Due.laid("w2;x1;x2;").day(0), NONE);
        Due.is("seven days without w", Due.laid("").day(6), 7);
    }

    private static void agree() {
        Due.is("w9, 6 left", Due.laid("w9;x1;x2;x3;").agree(), 18);
        Due.is("w8, 4 left", Due.laid("w8;x1;x2;x3;x4;").agree(), 8);
        Due.is("w9, 8 left", Due.laid("w9;x9;").agree(), 72);
        Due.is("w9, 1 left", Due.laid("w9;x1;x2;x3;x4;x5;x6;x7;x8;").agree(), 9);
        Due.is("w6, 4 left", Due.laid("w6;x1;x2;x0;x9;").agree(), 12);
        Due.is("w1", Due.laid("w1;x0;").agree(), 1);
        Due.is("w1, none left", Due.laid("w1;x1;").agree(), NONE);
    }

    /** Each week of 1 to 9 days with each row of strikes, its days gone through one by one. */
    private static void weeksOfAllLengths() {
        for (int all = 1; all <= 9; all++) {
            for (int strikers = 0; strikers < 1024; strikers++) {
                weekIs("w" + all + ";" + Due.strikes(strikers), all, strikers);
            }
        }
    }

    private static void weekIs(String text, int all, int strikers) {
        int[] left = new int[9];
        int many = 0;
        for (int d = 1; d <= all; d++) {
            if ((strikers >> d & 1) == 0) {
                left[many] = d;
                many++;
            }
        }
        int agreed = 1;
        while (many > 0 && (agreed % all != 0 || agreed % many != 0)) {
            agreed++;
        }
        SevenOnStrike x = Due.laid(text);
        Due.is(text + " agree()", x.agree(), many == 0 ? NONE : agreed);
        for (int n : new int[] {0, 1, 2, 3, 4, 5, 6, 7, 8, 9, 10, 9998, 9999}) {
            Due.is(text + " day(" + n + ")", x.day(n), many == 0 ? NONE : left[n % many]);
        }
    }

    private static void wrongNumbers() {
        SevenOnStrike x = new SevenOnStrike();
        Due.is("ways(1000)", x.ways(1000), BAD);
        Due.is("shortest(1000, 0)", x.shortest(1000, 0), BAD);
        Due.is("shortest(1, 4)", x.shortest(1, 4), BAD);
        Due.is("change(201)", x.change(201), BAD);
        Due.is("pays(201)", x.pays(201), BAD);
        Due.is("day(10000)", x.day(10000), BAD);
        for (int n : WRONG) {
            Due.is("ways(" + n + ")", x.ways(n), BAD);
            Due.is("shortest(" + n + ", 0)", x.shortest(n, 0), BAD);
            Due.is("shortest(0, " + n + ")", x.shortest(0, n), BAD);
            Due.is("change(" + n + ")", x.change(n), BAD);
            Due.is("pays(" + n + ")", x.pays(n), BAD);
            Due.is("day(" + n + ")", x.day(n), BAD);
        }
    }
}
