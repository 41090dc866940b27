/** Promises 16 to 22: ways, shortest, change, never, pays, day, agree. */
public final class WaysTest {
    private static final int BAD = SevenOnStrike.BAD, NONE = SevenOnStrike.NONE;
    private static final int[] WRONG = {-1, Integer.MIN_VALUE, Integer.MAX_VALUE};
    private static final String ALL = "x0;x1;x2;x3;x4;x5;x6;x7;x8;x9;";

    public static void main(String[] args) {
        ways();
        shortest();
        shortestIsBadBeforeNone();
        change();
        never();
        pays();
        day();
        agree();
        wrongNumbers();
        Due.end();
    }

    private static void ways() {
        SevenOnStrike all = Due.laid("");
        Due.is("ways(0)", all.ways(0), 1 + 1 + 999 + 1000);
        Due.is("ways(1)", all.ways(1), 1 + 1 + 998 + 1);
        Due.is("ways(12)", all.ways(12), 1 + 7 + 987 + 3);
        Due.is("ways(999)", all.ways(999), 1 + 500 + 0 + 4);
        Due.is("ways(998)", all.ways(998), 1 + 500 + 1 + 2);
        SevenOnStrike ones = Due.laid("x0;x2;x3;x4;x5;x6;x7;x8;x9;");
        Due.is("ones: ways(1)", ones.ways(1), 2);
        Due.is("ones: ways(2)", ones.ways(2), 1);
        Due.is("ones: ways(10)", ones.ways(10), 1);
        Due.is("ones: ways(0)", ones.ways(0), 3);
        Due.is("ones: ways(121)", ones.ways(121), 1);
        Due.is("ones: ways(3)", ones.ways(3), 0);
        Due.is("none: ways(0)", Due.laid(ALL).ways(0), 0);
        ones.strike(0, 1);
        ones.strike(0, 0);
        Due.is("as things stand: ways(0)", ones.ways(0), 1 + 1 + 7 + 8);
        ones.undo();
        Due.is("undone: ways(0)", ones.ways(0), 3);
    }

    private static void shortestIs(SevenOnStrike x, int n, int... want) {
        for (int what = 0; what < 4; what++) {
            Due.is("shortest(" + n + ", " + what + ")", x.shortest(n, what), want[what]);
        }
    }

    private static void shortest() {
        SevenOnStrike x = new SevenOnStrike();
        shortestIs(x, 0, 1, 0, 0, 0);
        shortestIs(x, 999, 3, 0, 999, 0);
        shortestIs(x, 7, 3, 1, 1, 6);
        shortestIs(x, 70, 4, 1, 1, 69);
        shortestIs(x, 72, 3, 3, 8, 9);
        shortestIs(x, 777, 5, 3, 3, 259);
        shortestIs(x, 770, 5, 3, 2, 385);
        shortestIs(x, 773, 6, 1, 80, 693);
        SevenOnStrike noughtless = Due.laid("x0;");
        shortestIs(noughtless, 0, 3, 2, 1, 1);
        shortestIs(noughtless, 10, 3, 1, 1, 9);
        shortestIs(noughtless, 20, 3, 3, 4, 5);
        SevenOnStrike ones = Due.laid("x0;x2;x3;x4;x5;x6;x7;x8;x9;");
        shortestIs(ones, 100, 6, 2, 111, 11);
        shortestIs(ones, 121, 5, 3, 11, 11);
        shortestIs(ones, 3, NONE, NONE, NONE, NONE);
        SevenOnStrike many = Due.laid("x6;");
        shortestIs(many, 6, 3, 1, 1, 5);
    }

    private static void shortestIsBadBeforeNone() {
        SevenOnStrike x = Due.laid(ALL);
        Due.is("shortest(5, 4) of none", x.shortest(5, 4), BAD);
        Due.is("shortest(5, -1) of none", x.shortest(5, -1), BAD);
        Due.is("day(10000) of none", x.day(10000), BAD);
        Due.is("change(201) of none", x.change(201), BAD);
    }

    private static void change() {
        SevenOnStrike x = Due.laid("c1;c15;c20;");
        Due.is("change(0)", x.change(0), 0);
        Due.is("change(30), not 20 first", x.change(30), 2);
        Due.is("change(19)", x.change(19), 5);
        Due.is("change(200)", x.change(200), 10);
        x.strike(1, 1);
        Due.is("change(30) without 1", x.change(30), NONE);
        Due.is("change(40) without 1", x.change(40), 2);
        x.strike(2, 1);
        Due.is("change(0) without any", x.change(0), 0);
        Due.is("change(40) without any", x.change(40), NONE);
        Due.is("two hundred coins of 1", Due.laid("c1;").change(200), 200);
    }

    private static void never() {
        Due.is("c1", Due.laid("c1;").never(), NONE);
        Due.is("c3, c5", Due.laid("c3;c5;").never(), 7);
        Due.is("c2", Due.laid("c2;").never(), 199);
        Due.is("no coins", Due.laid("").never(), 200);
        Due.is("c1 on strike", Due.laid("c1;x1;c3;c5;").never(), 7);
        Due.is("c99, c98", Due.laid("c99;c98;").never(), 200);
        Due.is("c2, c3", Due.laid("c2;c3;").never(), 1);
    }

    private static void pays() {
        SevenOnStrike x = Due.laid("c1;c2;c5;");
        Due.is("pays(0)", x.pays(0), 1);
        Due.is("pays(1)", x.pays(1), 1);
        Due.is("pays(10)", x.pays(10), 10);
        x.strike(2, 1);
        Due.is("pays(10) without 2", x.pays(10), 3);
        x.strike(1, 1);
        Due.is("pays(11) with 5 alone", x.pays(11), 0);
        Due.is("pays(10) with 5 alone", x.pays(10), 1);
        Due.is("pays(200) of six", Due.laid("c1;c2;c3;c4;c5;c6;").pays(200), partitions(200, 6));
        Due.is("the order does not matter", Due.laid("c6;c2;c1;c4;c5;c3;").pays(199), partitions(199, 6));
        Due.is("pays(0) of none", Due.laid("").pays(0), 1);
        Due.is("pays(1) of none", Due.laid("").pays(1), 0);
    }

    private static int partitions(int n, int most) {
        if (most == 1) {
            return 1;
        }
        int ways = 0;
        for (int rest = n; rest >= 0; rest -= most) {
            ways += partitions(rest, most - 1);
        }
        return ways;
    }

    private static void day() {
        SevenOnStrike x = Due.laid("w5;x2;x4;");
        int[] week = {1, 3, 5};
        for (int n = 0; n <= 9999; n++) {
            Due.is("day(" + n + ")", x.day(n), week[n % 3]);
        }
        Due.is("0 is no day", Due.laid("w1;x0;").day(9999), 1);
        Due.is("a strike beyond the week", Due.laid("w3;x4;").day(3), 1);
        Due.is("all left out", Due.laid("w2;x1;x2;").day(0), NONE);
        Due.is("seven days without w", Due.laid("").day(6), 7);
    }

    private static void agree() {
        Due.is("w9, 6 left", Due.laid("w9;x1;x2;x3;").agree(), 18);
        Due.is("w8, 4 left", Due.laid("w8;x1;x2;x3;x4;").agree(), 8);
        Due.is("w9, 8 left", Due.laid("w9;x9;").agree(), 72);
        Due.is("w9, 1 left", Due.laid("w9;x1;x2;x3;x4;x5;x6;x7;x8;").agree(), 9);
        Due.is("w6, 4 left", Due.laid("w6;x1;x2;x0;x9;").agree(), 12);
        Due.is("w1", Due.laid("w1;x0;").agree(), 1);
        Due.is("w1, none left", Due.laid("w1;x1;").agree(), NONE);
    }

    private static void wrongNumbers() {
        SevenOnStrike x = new SevenOnStrike();
        Due.is("ways(1000)", x.ways(1000), BAD);
        Due.is("shortest(1000, 0)", x.shortest(1000, 0), BAD);
        Due.is("shortest(1, 4)", x.shortest(1, 4), BAD);
        Due.is("change(201)", x.change(201), BAD);
        Due.is("pays(201)", x.pays(201), BAD);
        Due.is("day(10000)", x.day(10000), BAD);
        for (int n : WRONG) {
            Due.is("ways(" + n + ")", x.ways(n), BAD);
            Due.is("shortest(" + n + ", 0)", x.shortest(n, 0), BAD);
            Due.is("shortest(0, " + n + ")", x.shortest(0, n), BAD);
            Due.is("change(" + n + ")", x.change(n), BAD);
            Due.is("pays(" + n + ")", x.pays(n), BAD);
            Due.is("day(" + n + ")", x.day(n), BAD);
        }
    }
}
